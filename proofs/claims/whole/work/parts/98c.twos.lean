/-! twos in a tray; enough, atOnce -/
theorem and01 (x : Int32) : x &&& 1 = 0 ∨ x &&& 1 = 1 := by
  rw [← Int32.toBitVec_inj, ← Int32.toBitVec_inj, Int32.toBitVec_and]
  show (x.toBitVec &&& 1#32 = 0#32) ∨ (x.toBitVec &&& 1#32 = 1#32)
  rw [BitVec.and_one_eq_setWidth_ofBool_getLsbD]
  cases x.toBitVec.getLsbD 0 <;> simp
theorem bit_z (x : Int32) : (x &&& 1 = 0) = ¬ (x &&& 1 = 1) := by
  rcases and01 x with h | h
  · rw [h]; simp
  · rw [h]; simp
theorem and2 (s l : Nat) : (s &&& 2 ^ l = 0) ↔ s.testBit l = false := by
  constructor
  · intro h
    have := congrArg (fun z => z.testBit l) h
    simpa [Nat.testBit_and, Nat.testBit_two_pow] using this
  · intro h
    apply Nat.eq_of_testBit_eq
    intro i
    rw [Nat.testBit_and, Nat.testBit_two_pow, Nat.zero_testBit]
    by_cases e : l = i
    · subst e; simp [h]
    · simp [e]
theorem lgc0 (a b : Int64) : (lg_cmp a b = 0) = (a = b) := by
  unfold lg_cmp
  by_cases h : a > b
  · rw [if_pos h]
    have : ¬ a = b := fun e => by subst e; have := Int64.lt_iff_toInt_lt.mp h; omega
    simp [this]
  · rw [if_neg h]
    by_cases e : a = b
    · simp [e]
    · simp [e]
def rfT (W : Nat) (nu : Nat → Int64) : Nat → Nat → Bool
  | 0, _ => true
  | r + 1, i => (lnL W (nu i) && (decide (i % 2 = 0) || decide (nu i ≠ nu (i - 1)))) && rfT W nu r (i + 1)
def twP (nu : Nat → Int64) : Nat → Nat → Bool
  | 0, _ => true
  | r + 1, i => decide (nu i ≠ nu (i + 1)) && twP nu r (i + 2)
theorem rfT_eq (W : Nat) (nu : Nat → Int64) : ∀ q i, i % 2 = 0 → rfT W nu (2 * q) i = (allL W nu (2 * q) i && twP nu q i)
  | 0, i, _ => rfl
  | q + 1, i, h => by
    rw [show 2 * (q + 1) = (2 * q + 1) + 1 by omega, rfT, rfT, allL, allL, twP, rfT_eq W nu q (i + 1 + 1) (by omega), decide_eq_true h, decide_eq_false (show ¬ (i + 1) % 2 = 0 by omega), Nat.add_sub_cancel]
    have e : decide (nu (i + 1) ≠ nu i) = decide (nu i ≠ nu (i + 1)) := by rw [decide_eq_decide]; exact ⟨fun h => h.symm, fun h => h.symm⟩
    rw [e, show i + 1 + 1 = i + 2 from rfl]
    cases lnL W (nu i) <;> cases lnL W (nu (i + 1)) <;> cases decide (nu i ≠ nu (i + 1)) <;> cases allL W nu (2 * q) (i + 2) <;> rfl
theorem twP_all {nu : Nat → Int64} : ∀ (r i : Nat), twP nu r i = true → ∀ j, j < r → nu (i + 2 * j) ≠ nu (i + 2 * j + 1)
  | 0, _, _, j, h => absurd h (Nat.not_lt_zero _)
  | r + 1, i, h, j, hj => by
    unfold twP at h
    rw [Bool.and_eq_true, decide_eq_true_eq] at h
    rcases j with _ | j
    · exact h.1
    · have := twP_all r (i + 2) h.2 j (by omega)
      rw [show i + 2 * (j + 1) = i + 2 + 2 * j by omega]; exact this
def r2 (W ma : Nat) (nu : Nat → Int64) : Bool := decide (ma % 2 = 0) && (decide (2 ≤ ma) && decide (ma ≤ 6) && (allL W nu ma 0 && twP nu (ma / 2) 0))
theorem r2_d {P : PL} (hP : PlOK P) {ma : Nat} {nu : Nat → Int64} (h : r2 (pW P) ma nu = true) : ma = 2 * (ma / 2) ∧ ma ≤ 6 ∧ 2 ≤ ma ∧ (∀ j, j < ma → lnv nu j < pW P ∧ nu j = (nI (lnv nu j)).toInt64) ∧ ∀ j, j < ma / 2 → lnv nu (2 * j) ≠ lnv nu (2 * j + 1) := by
  unfold r2 at h
  simp only [Bool.and_eq_true, decide_eq_true_eq] at h
  obtain ⟨h1, ⟨h2, h3⟩, h4, h5⟩ := h
  have hn : ∀ j, j < ma → lnv nu j < pW P ∧ nu j = (nI (lnv nu j)).toInt64 := fun j hj => lnL_v hP.1 hP.2.1 (allL_all ma 0 h4 j (by omega) (by omega))
  refine ⟨by omega, h3, h2, hn, fun j hj e => ?_⟩
  have := twP_all (ma / 2) 0 h5 j hj
  rw [Nat.zero_add, (hn (2 * j) (by omega)).2, (hn (2 * j + 1) (by omega)).2, e] at this
  exact this rfl
theorem rem2 {a : Nat} (h : a < 1000000) : nI a - nI a / (2 : Int32) * (2 : Int32) = nI (a % 2) := pk_rem (a := a) (d := 2) (by omega) (by omega) (by omega)
section TW
variable {S : mkS} {I : mkI} {L : mkL} {R : mkR} {n : Nat × Nat} {tb : Nat → Nat} {tn : Nat} {fk fp : Int32} {w : WD} {tr : TR} {im : IM} {k : Nat}
theorem c_twoL (hC : InvC tb tn fk fp w tr im (k + 1) S I L R n) {t so ma : Nat} {nu : Nat → Int64} (ht : t < 4) (hq : tr t = some (so, ma, nu)) : ∀ (r g i : Nat), i + 2 * r = ma → r < g → F_X11_needTwos_38 g (some (189 + 2 * t)) (nI i) (mk S I L R n) = if twP nu r i = true then some (.inr (), mk S I L R n) else thr "java/lang/IllegalArgumentException" S I L R n := by
  have hs := hC.1.1
  obtain ⟨hm, h2, hl⟩ := x_tray hC ht hq
  intro r
  induction r with
  | zero =>
    intro g i hi hg
    obtain ⟨g, rfl⟩ : ∃ y, g = y + 1 := ⟨g - 1, by omega⟩
    simp only [F_X11_needTwos_38]
    rw [tr_v hs ht, c_many hs ht hm h2, b2_some, nI_1, if_pos (nI_le (by omega) (by omega))]
    rfl
  | succ r ih =>
    intro g i hi hg
    obtain ⟨g, rfl⟩ : ∃ y, g = y + 1 := ⟨g - 1, by omega⟩
    have ih' := ih g (i + 2) (by omega) (by omega)
    simp only [F_X11_needTwos_38, lgc0]
    rw [tr_v hs ht, c_many hs ht hm h2, b2_some, nI_1, if_neg (nI_ge (by omega) (by omega)), tr_v hs ht, c_at hs ht hm h2 (by omega), b2_some, tr_v hs ht, c_at hs ht hm h2 (by omega), b2_some, hl i (by omega), hl (i + 1) (by omega), show nI i + 2 = nI (i + 2) from nI_add i 2, ih', hC.thr]
    rw [twP]
    by_cases e : nu i = nu (i + 1)
    · rw [if_pos e, decide_eq_false (fun q => q e), Bool.false_and, if_neg Bool.false_ne_true]; rfl
    · rw [if_neg e, decide_eq_true e, Bool.true_and]
theorem x_twos (hC : InvC tb tn fk fp w tr im (k + 1) S I L R n) (hP : PlOK w.1) {t so ma : Nat} {nu : Nat → Int64} (ht : t < 4) (hq : tr t = some (so, ma, nu)) : F_X11_needTwos (some 128) (some (189 + 2 * t)) (mk S I L R n) = if r2 (pW w.1) ma nu = true then some (.inr (), mk S I L R n) else thr "java/lang/IllegalArgumentException" S I L R n := by
  have hs := hC.1.1
  obtain ⟨hm, h2, hl⟩ := x_tray hC ht hq
  have e5 : wI (nI (ma / 2)) 1 3 = (decide (1 ≤ ma / 2) && decide (ma / 2 ≤ 3)) := wI_n (lo := 1) (hi := 3) (by omega) (by decide) (by decide)
  have ed : nI ma / 2 = nI (ma / 2) := nI_div (b := 2) (by omega) (by decide) (by decide)
  unfold F_X11_needTwos r2
  rw [tr_v hs ht, c_many hs ht hm h2, b2_some, rem2 (by omega)]
  by_cases e : ma % 2 = 0
  · rw [e, if_pos (by decide), tr_v hs ht, c_many hs ht hm h2, b2_some, ed, x_within hC, e5]
    have e1 : decide (1 ≤ ma / 2) = decide (2 ≤ ma) := by rw [decide_eq_decide]; omega
    have e2 : decide (ma / 2 ≤ 3) = decide (ma ≤ 6) := by rw [decide_eq_decide]; omega
    rw [e1, e2, decide_eq_true (show (0 : Nat) = 0 by rfl), Bool.true_and]
    by_cases z : (decide (2 ≤ ma) && decide (ma ≤ 6)) = true
    · rw [if_pos z, b3_some, z, Bool.true_and, cv_128 hs]
      unfold F_X11_needLinesIn
      rw [show F_X11_needLinesIn_2 mm_N (some 128) (some (189 + 2 * t)) 0 (mk S I L R n) = _ from c_linesL hC hP ht hq ma mm_N 0 (by omega) (by show ma < 1000000; omega)]
      by_cases y : allL (pW w.1) nu ma 0 = true
      · rw [if_pos y, b3_some, y, Bool.true_and]
        exact c_twoL hC ht hq (ma / 2) mm_N 0 (by omega) (by show ma / 2 < 1000000; omega)
      · rw [if_neg y, b3_thr2, if_neg (fun q => y (by rw [Bool.and_eq_true] at q; exact q.1))]
    · rw [if_neg z, b3_thr2, if_neg (fun q => z (by rw [Bool.and_eq_true] at q; exact q.1))]
  · rw [if_neg (show ¬ nI (ma % 2) = 0 from fun q => e ((nI_eq (b := 0) (by omega) (by omega)).mp q)), hC.thr, decide_eq_false e, Bool.false_and, if_neg Bool.false_ne_true]
    rfl
/-! the reference's fault -/
theorem e_tfL (hs : St S R) {t ma W : Nat} {nu : Nat → Int64} (hT : RTl t ma nu I L) (hK : I 198 1 = nI W) : ∀ (r g i : Nat) (b : Bool), i + r = ma → r < g → F_X12_twosFault_51 g (some 197) (nI t) (b2i b) (nI i) (mk S I L R n) = some (if (b && rfT W nu r i) = true then 0 else 3, mk S I L R n) := by
  obtain ⟨ht, hm, -, h4, h5⟩ := hT
  intro r
  induction r with
  | zero =>
    intro g i b hi hg
    obtain ⟨g, rfl⟩ : ∃ y, g = y + 1 := ⟨g - 1, by omega⟩
    simp only [F_X12_twosFault_51, F_X12_twosFault_134, F_X12_twosFault_143]
    rw [gr_197_46 hs, Option.bind_some, ai_218 hs ht, Option.bind_some, h4, if_pos (nI_le (by omega) (by omega))]
    cases b <;> rfl
  | succ r ih =>
    intro g i b hi hg
    obtain ⟨g, rfl⟩ : ∃ y, g = y + 1 := ⟨g - 1, by omega⟩
    have e0 : ¬ nI ma ≤ nI i := nI_ge (by omega) (by omega)
    cases b with
    | false =>
      simp only [F_X12_twosFault_51, F_X12_twosFault_134, F_X12_twosFault_143]
      rw [gr_197_46 hs, Option.bind_some, ai_218 hs ht, Option.bind_some, h4, if_neg e0, if_pos (show b2i false = 0 from rfl), if_pos (show b2i false = 0 from rfl)]
      rfl
    | true =>
      have e9 : (30 : Int32) * nI t + nI i = nI (30 * t + i) := by
        rw [show (30 : Int32) = nI 30 from rfl, nI_mul9, nI_add]
      have ih1 := ih g (i + 1) true (by omega) (by omega)
      have ih0 := ih g (i + 1) false (by omega) (by omega)
      rw [show b2i true = 1 from rfl, Bool.true_and] at ih1
      rw [show b2i false = 0 from rfl, Bool.false_and, if_neg Bool.false_ne_true] at ih0
      simp only [F_X12_twosFault_51, F_X12_twosFault_126, F_X12_twosFault_122, F_X12_twosFault_127, lgc0]
      rw [gr_197_46 hs, Option.bind_some, ai_218 hs ht, Option.bind_some, h4, if_neg e0, if_neg (show ¬ b2i true = 0 by decide), gr_197_47 hs, Option.bind_some, e9, al_219 hs (by omega), Option.bind_some, cv_197 hs, e_isLine hs, b2_some, hK, h5 i (by omega), nI_1, ih1, ih0, rem2 (by omega)]
      rw [Bool.true_and, rfT]
      by_cases l1 : lnL W (nu i) = true
      · rw [show inL (nu i) 0 (nI W - 1).toInt64 = true from l1, if_neg (by decide), l1, Bool.true_and]
        by_cases y : i % 2 = 0
        · rw [y, if_pos (by decide), decide_eq_true (show (0 : Nat) = 0 by rfl), Bool.true_or, Bool.true_and]
        · rw [if_neg (show ¬ nI (i % 2) = 0 from fun q => y ((nI_eq (b := 0) (by omega) (by omega)).mp q)), decide_eq_false y, Bool.false_or, gr_197_47 hs, Option.bind_some, al_219 hs (by omega), Option.bind_some, Option.bind_some, nI_sub1 (by omega), al_219 hs (by omega), Option.bind_some, h5 i (by omega), show 30 * t + i - 1 = 30 * t + (i - 1) by omega, h5 (i - 1) (by omega)]
          by_cases z : nu i = nu (i - 1)
          · rw [if_pos z, decide_eq_false (fun q => q z), Bool.false_and, if_neg Bool.false_ne_true]
          · rw [if_neg z, decide_eq_true z, Bool.true_and]
      · have l0 : lnL W (nu i) = false := by simpa using l1
        rw [show inL (nu i) 0 (nI W - 1).toInt64 = false from l0, if_pos (by decide), l0, Bool.false_and, Bool.false_and, if_neg Bool.false_ne_true]
theorem e_twosFault (hs : St S R) {t ma W : Nat} {nu : Nat → Int64} (hT : RTl t ma nu I L) (hK : I 198 1 = nI W) : F_X12_twosFault (some 197) (nI t) (mk S I L R n) = some (if r2 W ma nu = true then 0 else 3, mk S I L R n) := by
  obtain ⟨ht, hm, h3, h4, h5⟩ := id hT
  have key := fun b => e_tfL (R := R) (n := n) hs hT hK ma mm_N 0 b (by omega) (by show ma < 1000000; omega)
  have ew : F_X12_within (nI ma).toInt64 2 6 (mk S I L R n) = some (b2i (decide (2 ≤ ma) && decide (ma ≤ 6)), mk S I L R n) := by
    have := e_in (nI ma) 2 6 (mk S I L R n)
    rw [show wI (nI ma) 2 6 = (decide (2 ≤ ma) && decide (ma ≤ 6)) from wI_n (lo := 2) (hi := 6) (by omega) (by decide) (by decide)] at this
    exact this
  unfold F_X12_twosFault F_X12_twosFault_46 F_X12_twosFault_47 r2
  rw [cv_197 hs, e_tray hs ht, b2_some, if_neg h3, if_pos rfl, gr_197_46 hs, Option.bind_some, ai_218 hs ht, Option.bind_some, h4, rem2 (by omega)]
  by_cases e : ma % 2 = 0
  · rw [e, if_pos (by decide), Option.bind_some, ai_218 hs ht, Option.bind_some, h4, ew, b2_some, decide_eq_true (show (0 : Nat) = 0 by rfl), Bool.true_and]
    have er := rfT_eq W nu (ma / 2) 0 rfl
    rw [show 2 * (ma / 2) = ma by omega] at er
    by_cases z : (decide (2 ≤ ma) && decide (ma ≤ 6)) = true
    · rw [z, if_neg (by decide), Bool.true_and, ← er]
      have := key true
      rw [Bool.true_and] at this
      exact this
    · have z' : (decide (2 ≤ ma) && decide (ma ≤ 6)) = false := by simpa using z
      rw [z', if_pos (by decide), Bool.false_and, if_neg Bool.false_ne_true]
      exact key false
  · rw [if_neg (show ¬ nI (ma % 2) = 0 from fun q => e ((nI_eq (b := 0) (by omega) (by omega)).mp q)), decide_eq_false e, Bool.false_and, if_neg Bool.false_ne_true]
    exact key false
/-! cords that reach two -/
def rbo (P : PL) (k l m : Nat) : Bool := hasB (pRe P k) (nI l) && hasB (pRe P k) (nI m)
theorem e_reachesBoth (hs : St S R) {P : PL} (hK : RPlan P (I 198)) (hC : pC P ≤ 3) {k l m : Nat} (hk : k < pC P) : F_X12_reachesBoth (some 197) (nI k) (nI l) (nI m) (mk S I L R n) = some (b2i (rbo P k l m), mk S I L R n) := by
  unfold F_X12_reachesBoth F_X12_reachesBoth_36 F_X12_reachesBoth_37 rbo
  rw [gr_197_0 hs, Option.bind_some, show (48 : Int32) + nI k = nI (48 + k) from nI_add 48 k, ai_198 hs (by omega), Option.bind_some, hK.2.2.2.1 k hk, e_has, b2_some, gr_197_0 hs, Option.bind_some, ai_198 hs (by omega), Option.bind_some, hK.2.2.2.1 k hk, e_has, b2_some]
  cases hasB (pRe P k) (nI l) <;> cases hasB (pRe P k) (nI m) <;> rfl
def jn (P : PL) (s l m : Nat) : Nat → Nat → Bool
  | 0, _ => false
  | r + 1, k => (s.testBit k && rbo P k l m) || jn P s l m r (k + 1)
theorem jn_sym (P : PL) (s l m : Nat) : ∀ r k, jn P s l m r k = jn P s m l r k
  | 0, _ => rfl
  | r + 1, k => by rw [jn, jn, jn_sym P s l m r (k + 1)]; unfold rbo; rw [Bool.and_comm (hasB (pRe P k) (nI l))]
theorem jn_0 (P : PL) (l m : Nat) : ∀ r k, jn P 0 l m r k = false
  | 0, _ => rfl
  | r + 1, k => by rw [jn, jn_0 P l m r (k + 1), Nat.zero_testBit]; rfl
/-- all twos joined: the class's way round, and the reference's -/
def jC (P : PL) (s l : Nat) : Nat → Nat → Bool
  | 0, _ => true
  | r + 1, m => jn P s l m (pC P) 0 && jC P s l r (m + 1)
def jCC (P : PL) (s : Nat) : Nat → Nat → Bool
  | 0, _ => true
  | r + 1, l => jC P s l r (l + 1) && jCC P s r (l + 1)
def jRR (P : PL) (s : Nat) : Nat → Nat → Bool
  | 0, _ => true
  | r + 1, l => jC P s l l 0 && jRR P s r (l + 1)
theorem jC_iff (P : PL) (s l : Nat) : ∀ r m, jC P s l r m = true ↔ ∀ j, m ≤ j → j < m + r → jn P s l j (pC P) 0 = true
  | 0, m => ⟨fun _ j h1 h2 => by omega, fun _ => rfl⟩
  | r + 1, m => by
    rw [jC, Bool.and_eq_true, jC_iff P s l r (m + 1)]
    refine ⟨fun h j h1 h2 => ?_, fun h => ⟨h m (Nat.le_refl _) (by omega), fun j h1 h2 => h j (by omega) (by omega)⟩⟩
    rcases Nat.eq_or_lt_of_le h1 with e | e
    · exact e ▸ h.1
    · exact h.2 j e (by omega)
theorem jCC_iff (P : PL) (s : Nat) : ∀ r l, jCC P s r l = true ↔ ∀ i j, l ≤ i → i < j → j < l + r → jn P s i j (pC P) 0 = true
  | 0, l => ⟨fun _ i j h1 h2 h3 => by omega, fun _ => rfl⟩
  | r + 1, l => by
    rw [jCC, Bool.and_eq_true, jC_iff, jCC_iff P s r (l + 1)]
    refine ⟨fun h i j h1 h2 h3 => ?_, fun h => ⟨fun j h1 h2 => h l j (Nat.le_refl _) (by omega) (by omega), fun i j h1 h2 h3 => h i j (by omega) h2 (by omega)⟩⟩
    rcases Nat.eq_or_lt_of_le h1 with e | e
    · exact e ▸ h.1 j (by omega) (by omega)
    · exact h.2 i j e h2 (by omega)
theorem jRR_iff (P : PL) (s : Nat) : ∀ r l, jRR P s r l = true ↔ ∀ i j, l ≤ i → i < l + r → j < i → jn P s i j (pC P) 0 = true
  | 0, l => ⟨fun _ i j h1 h2 h3 => by omega, fun _ => rfl⟩
  | r + 1, l => by
    rw [jRR, Bool.and_eq_true, jC_iff, jRR_iff P s r (l + 1)]
    refine ⟨fun h i j h1 h2 h3 => ?_, fun h => ⟨fun j h1 h2 => h l j (Nat.le_refl _) (by omega) (by omega), fun i j h1 h2 h3 => h i j (by omega) (by omega) h3⟩⟩
    rcases Nat.eq_or_lt_of_le h1 with e | e
    · exact e ▸ h.1 j (by omega) (by omega)
    · exact h.2 i j e (by omega) h3
theorem jRR_eq (P : PL) (s : Nat) : jRR P s (pW P) 0 = jCC P s (pW P) 0 := by
  rw [Bool.eq_iff_iff, jRR_iff, jCC_iff]
  exact ⟨fun h i j _ h2 h3 => by rw [jn_sym]; exact h j i (by omega) h3 h2, fun h i j _ h2 h3 => by rw [jn_sym]; exact h j i (by omega) h3 (by omega)⟩
theorem jRR_0 {P : PL} (hP : PlOK P) : jCC P 0 (pW P) 0 = false := by
  have : ¬ jCC P 0 (pW P) 0 = true := fun h => by
    have := (jCC_iff P 0 (pW P) 0).mp h 0 1 (Nat.le_refl _) (by omega) (by have := hP.1; omega)
    rw [jn_0] at this
    cases this
  simpa using this
theorem c_jn (hP : PlOK w.1) {P : PL} (hP : PlOK P) {p : Nat} (hp : CPlan P S R I p) {s l m : Nat} (hl : l < 8) (hm : m < 8) (k10 : Int32 → Option Nat → Int32 → MH → Option (Int32 × MH)) (k23 : Int32 → Option Nat → Int32 → Int32 → MH → Option (Int32 × MH)) : ∀ (r g k : Nat) (b : Bool), k + r = pC P → r < g → F_X11_joinAnyTwo_38 k10 k23 g (nI s) (some p) (nI l) (nI m) (b2i b) (nI k) (mk S I L R n) = if (b || jn P s l m r k) = true then k23 (nI s) (some p) (nI l) (nI (m + 1)) (mk S I L R n) else some (0, mk S I L R n) := by
  have w3 := hP.2.2.1
  intro r
  induction r with
  | zero =>
    intro g k b hk hg
    obtain ⟨g, rfl⟩ : ∃ y, g = y + 1 := ⟨g - 1, by omega⟩
    simp only [F_X11_joinAnyTwo_38]
    rw [pl_1 hp, Option.bind_some, if_pos (nI_le (by omega) (by omega)), nI_1]
    cases b <;> rfl
  | succ r ih =>
    intro g k b hk hg
    obtain ⟨g, rfl⟩ : ∃ y, g = y + 1 := ⟨g - 1, by omega⟩
    have hbit : (((nI s >>> (nI k &&& 31)) &&& 1) = 1) = (s.testBit k = true) := by
      have := hasB_nI (v := s) (l := k) (by omega)
      unfold hasB at this
      rw [← this, decide_eq_true_eq]
    have o1 : b2i b ||| (0 : Int32) = b2i (b || false) := by cases b <;> rfl
    have o2 : b2i b ||| (1 : Int32) = b2i (b || true) := by cases b <;> rfl
    simp only [F_X11_joinAnyTwo_38, F_X11_joinAnyTwo_75, F_X11_joinAnyTwo_76, hbit]
    rw [pl_1 hp, Option.bind_some, if_neg (nI_ge (by omega) (by omega)), pl_v hp.1, c_reaches hP hp (by omega) (by omega) (by omega), b2_some, nI_1, o1, o2, ih g (k + 1) (b || false) (by omega) (by omega), ih g (k + 1) (b || true) (by omega) (by omega), jn]
    unfold rbo
    by_cases h1 : s.testBit k = true
    · rw [if_pos h1, h1, Bool.true_and]
      by_cases h2 : (hasB (pRe P k) (nI l) && hasB (pRe P k) (nI m)) = true
      · rw [b2i_e h2, if_neg (show ¬ (1 : Int32) = 0 by decide), h2]
        cases b <;> rfl
      · have h2' : (hasB (pRe P k) (nI l) && hasB (pRe P k) (nI m)) = false := by simpa using h2
        rw [b2i_ne h2, if_pos rfl, h2', Bool.or_false, Bool.false_or]
    · have h1' : s.testBit k = false := by simpa using h1
      rw [if_neg h1, h1', Bool.false_and, Bool.false_or, Bool.or_false]
theorem c_jC {P : PL} (hP : PlOK P) {p : Nat} (hp : CPlan P S R I p) {s l : Nat} (hl : l < pW P) (k10 : Int32 → Option Nat → Int32 → MH → Option (Int32 × MH)) : ∀ (r g m : Nat), m + r = pW P → r < g → F_X11_joinAnyTwo_23 k10 g (nI s) (some p) (nI l) (nI m) (mk S I L R n) = if jC P s l r m = true then k10 (nI s) (some p) (nI (l + 1)) (mk S I L R n) else some (0, mk S I L R n) := by
  have w2 := hP.2.1
  intro r
  induction r with
  | zero =>
    intro g m hm hg
    obtain ⟨g, rfl⟩ : ∃ y, g = y + 1 := ⟨g - 1, by omega⟩
    simp only [F_X11_joinAnyTwo_23]
    rw [pl_0 hp, Option.bind_some, if_pos (nI_le (by omega) (by omega)), nI_1]
    rfl
  | succ r ih =>
    intro g m hm hg
    obtain ⟨g, rfl⟩ : ∃ y, g = y + 1 := ⟨g - 1, by omega⟩
    have := c_jn (L := L) (n := n) (w := (P, (0, fun _ => 0), [])) hP hP hp (s := s) (show l < 8 by omega) (show m < 8 by omega) k10 (F_X11_joinAnyTwo_23 k10 g) (pC P) mm_N 0 false (by omega) (by have := hP.2.2.1; show pC P < 1000000; omega)
    rw [show b2i false = 0 from rfl, Bool.false_or] at this
    simp only [F_X11_joinAnyTwo_23]
    rw [pl_0 hp, Option.bind_some, if_neg (nI_ge (by omega) (by omega))]
    refine this.trans ?_
    rw [ih g (m + 1) (by omega) (by omega), jC]
    by_cases e : jn P s l m (pC P) 0 = true
    · rw [if_pos e, e, Bool.true_and]
    · have e' : jn P s l m (pC P) 0 = false := by simpa using e
      rw [if_neg e, e', Bool.false_and, if_neg Bool.false_ne_true]
theorem c_jCC {P : PL} (hP : PlOK P) {p : Nat} (hp : CPlan P S R I p) {s : Nat} : ∀ (r g l : Nat), l + r = pW P → r < g → F_X11_joinAnyTwo_10 g (nI s) (some p) (nI l) (mk S I L R n) = some (b2i (jCC P s r l), mk S I L R n) := by
  have w2 := hP.2.1
  intro r
  induction r with
  | zero =>
    intro g l hm hg
    obtain ⟨g, rfl⟩ : ∃ y, g = y + 1 := ⟨g - 1, by omega⟩
    simp only [F_X11_joinAnyTwo_10]
    rw [pl_0 hp, Option.bind_some, if_pos (nI_le (by omega) (by omega)), rZ_1]
    rfl
  | succ r ih =>
    intro g l hm hg
    obtain ⟨g, rfl⟩ : ∃ y, g = y + 1 := ⟨g - 1, by omega⟩
    simp only [F_X11_joinAnyTwo_10]
    rw [pl_0 hp, Option.bind_some, if_neg (nI_ge (by omega) (by omega)), nI_1, c_jC hP hp (by omega) _ r mm_N (l + 1) (by omega) (by show r < 1000000; omega), ih g (l + 1) (by omega) (by omega), jCC]
    by_cases e : jC P s l r (l + 1) = true
    · rw [if_pos e, e, Bool.true_and]
    · have e' : jC P s l r (l + 1) = false := by simpa using e
      rw [if_neg e, e', Bool.false_and]; rfl
theorem e_jn (hs : St S R) {P : PL} (hP : PlOK P) (hK : RPlan P (I 198)) {s l m : Nat} (k2 : Option Nat → Int32 → Int32 → MH → Option (Int32 × MH)) (k14 : Option Nat → Int32 → Int32 → Int32 → MH → Option (Int32 × MH)) : ∀ (r g k : Nat) (b : Bool), k + r = pC P → r < g → F_X12_isEnough_25 k2 k14 g (some 197) (nI s) (nI l) (nI m) (b2i b) (nI k) (mk S I L R n) = if (b || jn P s l m r k) = true then k14 (some 197) (nI s) (nI l) (nI (m + 1)) (mk S I L R n) else some (0, mk S I L R n) := by
  have w3 := hP.2.2.1
  intro r
  induction r with
  | zero =>
    intro g k b hk hg
    obtain ⟨g, rfl⟩ : ∃ y, g = y + 1 := ⟨g - 1, by omega⟩
    simp only [F_X12_isEnough_25]
    rw [gr_197_0 hs, Option.bind_some, show aI (mk S I L R n) (some 198) 0 2 = some (I 198 2) from ai_198 (k := 2) hs (by omega), Option.bind_some, hK.2.2.1, if_pos (nI_le (by omega) (by omega)), nI_1]
    cases b <;> rfl
  | succ r ih =>
    intro g k b hk hg
    obtain ⟨g, rfl⟩ : ∃ y, g = y + 1 := ⟨g - 1, by omega⟩
    have ih1 := ih g (k + 1) true (by omega) (by omega)
    have ih0 := ih g (k + 1) false (by omega) (by omega)
    rw [show b2i true = 1 from rfl, Bool.true_or, if_pos rfl] at ih1
    rw [show b2i false = 0 from rfl, Bool.false_or] at ih0
    simp only [F_X12_isEnough_25, F_X12_isEnough_65, F_X12_isEnough_61, F_X12_isEnough_66]
    rw [gr_197_0 hs, Option.bind_some, show aI (mk S I L R n) (some 198) 0 2 = some (I 198 2) from ai_198 (k := 2) hs (by omega), Option.bind_some, hK.2.2.1, if_neg (nI_ge (by omega) (by omega)), e_has, b2_some, hasB_nI (by omega), cv_197 hs, e_reachesBoth hs hK w3 (by omega), b2_some, nI_1, ih1, ih0, jn]
    cases b with
    | true => rw [if_neg (by decide), Bool.true_or, if_pos rfl]
    | false =>
      rw [if_pos (by decide), Bool.false_or]
      cases s.testBit k <;> cases rbo P k l m <;> rfl
theorem e_jC (hs : St S R) {P : PL} (hP : PlOK P) (hK : RPlan P (I 198)) {s l : Nat} (hl : l < pW P) (k2 : Option Nat → Int32 → Int32 → MH → Option (Int32 × MH)) : ∀ (r g m : Nat), m + r = l → r < g → F_X12_isEnough_14 k2 g (some 197) (nI s) (nI l) (nI m) (mk S I L R n) = if jC P s l r m = true then k2 (some 197) (nI s) (nI (l + 1)) (mk S I L R n) else some (0, mk S I L R n) := by
  have w2 := hP.2.1
  intro r
  induction r with
  | zero =>
    intro g m hm hg
    obtain ⟨g, rfl⟩ : ∃ y, g = y + 1 := ⟨g - 1, by omega⟩
    simp only [F_X12_isEnough_14]
    rw [if_pos (nI_le (by omega) (by omega)), nI_1]
    rfl
  | succ r ih =>
    intro g m hm hg
    obtain ⟨g, rfl⟩ : ∃ y, g = y + 1 := ⟨g - 1, by omega⟩
    have := e_jn (L := L) (n := n) hs hP hK (s := s) (l := l) (m := m) k2 (F_X12_isEnough_14 k2 g) (pC P) mm_N 0 false (by omega) (by have := hP.2.2.1; show pC P < 1000000; omega)
    rw [show b2i false = 0 from rfl, Bool.false_or] at this
    simp only [F_X12_isEnough_14]
    rw [if_neg (nI_ge (by omega) (by omega))]
    refine this.trans ?_
    rw [ih g (m + 1) (by omega) (by omega), jC]
    by_cases e : jn P s l m (pC P) 0 = true
    · rw [if_pos e, e, Bool.true_and]
    · have e' : jn P s l m (pC P) 0 = false := by simpa using e
      rw [if_neg e, e', Bool.false_and, if_neg Bool.false_ne_true]
theorem e_jRR (hs : St S R) {P : PL} (hP : PlOK P) (hK : RPlan P (I 198)) {s : Nat} : ∀ (r g l : Nat), l + r = pW P → r < g → F_X12_isEnough_2 g (some 197) (nI s) (nI l) (mk S I L R n) = some (b2i (jRR P s r l), mk S I L R n) := by
  have w2 := hP.2.1
  intro r
  induction r with
  | zero =>
    intro g l hm hg
    obtain ⟨g, rfl⟩ : ∃ y, g = y + 1 := ⟨g - 1, by omega⟩
    simp only [F_X12_isEnough_2]
    rw [gr_197_0 hs, Option.bind_some, show aI (mk S I L R n) (some 198) 0 1 = some (I 198 1) from ai_198 (k := 1) hs (by omega), Option.bind_some, hK.2.1, if_pos (nI_le (by omega) (by omega)), rZ_1]
    rfl
  | succ r ih =>
    intro g l hm hg
    obtain ⟨g, rfl⟩ : ∃ y, g = y + 1 := ⟨g - 1, by omega⟩
    simp only [F_X12_isEnough_2]
    rw [gr_197_0 hs, Option.bind_some, show aI (mk S I L R n) (some 198) 0 1 = some (I 198 1) from ai_198 (k := 1) hs (by omega), Option.bind_some, hK.2.1, if_neg (nI_ge (by omega) (by omega)), show (0 : Int32) = nI 0 from rfl, e_jC hs hP hK (by omega) _ l mm_N 0 (by omega) (by show l < 1000000; omega), ih g (l + 1) (by omega) (by omega), jRR]
    by_cases e : jC P s l l 0 = true
    · rw [if_pos e, e, Bool.true_and]
    · have e' : jC P s l l 0 = false := by simpa using e
      rw [if_neg e, e', Bool.false_and]; rfl
def enS (P : PL) (s : Nat) (b : Int32) : Int32 := if jCC P s (pW P) 0 = true then (if b = -1 then nI (pcn s) else if b ≤ nI (pcn s) then b else nI (pcn s)) else b
def enF (P : PL) : Nat → Nat → Int32 → Int32
  | 0, _, b => b
  | r + 1, s, b => enF P r (s + 1) (enS P s b)
theorem c_enF (hs : St S R) {P : PL} (hP : PlOK P) {p : Nat} {co : Nat} (hb : BdS S R 170 174 co) (hpl : R 170 2 = some p) (hp : CPlan P S R I p) : ∀ (r g s : Nat) (b : Int32), s + r = 2 ^ pC P → r < g → F_X11_enough_15 g (some 128) (nI (pC P)) b (nI s) (mk S I L R n) = some (enF P r s b, mk S I L R n) := by
  have w3 := hP.2.2.1
  have hp8 : 2 ^ pC P ≤ 2 ^ 3 := Nat.pow_le_pow_right (by decide) w3
  intro r
  induction r with
  | zero =>
    intro g s b hm hg
    obtain ⟨g, rfl⟩ : ∃ y, g = y + 1 := ⟨g - 1, by omega⟩
    simp only [F_X11_enough_15]
    rw [sh1 (show pC P < 31 by omega), if_pos (nI_le (by omega) (by omega))]
    rfl
  | succ r ih =>
    intro g s b hm hg
    obtain ⟨g, rfl⟩ : ∃ y, g = y + 1 := ⟨g - 1, by omega⟩
    have hj : F_X11_joinAnyTwo (some 128) (nI s) (mk S I L R n) = some (b2i (jCC P s (pW P) 0), mk S I L R n) := by
      unfold F_X11_joinAnyTwo
      rw [gr_128_5 hs, Option.bind_some, bd_p hb hpl, Option.bind_some]
      exact c_jCC hP hp (pW P) mm_N 0 (by omega) (by have := hP.2.1; show pW P < 1000000; omega)
    have ih' := fun b => ih g (s + 1) b (by omega) (by omega)
    simp only [F_X11_enough_15, F_X11_enough_39, F_X11_enough_50]
    rw [sh1 (show pC P < 31 by omega), if_neg (nI_ge (by omega) (by omega)), c_bitCount (by omega), b2_some, cv_128 hs, hj, b2_some, nI_1, ih', ih', enF, enS]
    by_cases e : jCC P s (pW P) 0 = true
    · rw [b2i_e e, if_neg (show ¬ (1 : Int32) = 0 by decide), if_pos e]
      by_cases e1 : b = -1
      · rw [if_pos e1, if_pos e1]
      · rw [if_neg e1, if_neg e1]
        by_cases e2 : b ≤ nI (pcn s)
        · rw [if_pos e2, if_pos e2]
        · rw [if_neg e2, if_neg e2]
    · rw [b2i_ne e, if_pos (show (0 : Int32) = 0 from rfl), if_neg e, ite_self, ite_self]
theorem e_enF (hs : St S R) {P : PL} (hP : PlOK P) (hK : RPlan P (I 198)) : ∀ (r g s : Nat) (b : Int32), s + r = 2 ^ pC P → r < g → F_X12_enough_9 g (some 197) b (nI s) (mk S I L R n) = some (enF P r s b, mk S I L R n) := by
  have w3 := hP.2.2.1
  have hp8 : 2 ^ pC P ≤ 2 ^ 3 := Nat.pow_le_pow_right (by decide) w3
  intro r
  induction r with
  | zero =>
    intro g s b hm hg
    obtain ⟨g, rfl⟩ : ∃ y, g = y + 1 := ⟨g - 1, by omega⟩
    simp only [F_X12_enough_9]
    rw [gr_197_0 hs, Option.bind_some, show aI (mk S I L R n) (some 198) 0 2 = some (I 198 2) from ai_198 (k := 2) hs (by omega), Option.bind_some, hK.2.2.1, sh1 (show pC P < 31 by omega), if_pos (nI_le (by omega) (by omega))]
    rfl
  | succ r ih =>
    intro g s b hm hg
    obtain ⟨g, rfl⟩ : ∃ y, g = y + 1 := ⟨g - 1, by omega⟩
    have hj : F_X12_isEnough (some 197) (nI s) (mk S I L R n) = some (b2i (jCC P s (pW P) 0), mk S I L R n) := by
      unfold F_X12_isEnough
      rw [← jRR_eq]
      exact e_jRR hs hP hK (pW P) mm_N 0 (by omega) (by have := hP.2.1; show pW P < 1000000; omega)
    have ih' := fun b => ih g (s + 1) b (by omega) (by omega)
    simp only [F_X12_enough_9, F_X12_enough_42, F_X12_enough_47]
    rw [gr_197_0 hs, Option.bind_some, show aI (mk S I L R n) (some 198) 0 2 = some (I 198 2) from ai_198 (k := 2) hs (by omega), Option.bind_some, hK.2.2.1, sh1 (show pC P < 31 by omega), if_neg (nI_ge (by omega) (by omega)), cv_197 hs, hj, b2_some, e_size (by omega), b2_some, b2_some, e_size (by omega), b2_some, nI_1, ih', ih', enF, enS]
    by_cases e : jCC P s (pW P) 0 = true
    · rw [b2i_e e, if_neg (by decide), if_pos e]
      by_cases e1 : b = -1
      · rw [if_pos e1, if_pos e1]
      · rw [if_neg e1, if_neg e1]
        by_cases e2 : b ≤ nI (pcn s)
        · rw [if_pos e2, if_pos e2]
        · rw [if_neg e2, if_neg e2]
    · rw [b2i_ne e, if_pos rfl, if_neg e]
/-! at once -/
def dsB (nu : Nat → Int64) : Nat → Nat → Nat → Bool
  | 0, _, _ => true
  | r + 1, i, s => !(s.testBit (lnv nu i)) && dsB nu r (i + 1) (s ||| 2 ^ lnv nu i)
def jT (P : PL) (nu : Nat → Int64) : Nat → Nat → Nat → Bool
  | 0, _, _ => true
  | r + 1, i, u => (List.range' 0 (pC P)).any fun k => !(u.testBit k) && (rbo P k (lnv nu (2 * i)) (lnv nu (2 * i + 1)) && jT P nu r (i + 1) (u ||| 2 ^ k))
end TW
