/-! boards: rows of 81 ints, as the class has them, and the reference -/
/-- the board as the reference has it -/
def RBoard (C : Nat) (f K : Nat → Int32) : Prop := C ≤ 10 ∧ f 1 = nI C ∧ K 47 = f 0 ∧ K 7 = f 1 ∧ K 46 = f 2 ∧ (∀ l, l < 8 → K (38 + l) = f (3 + l)) ∧ ∀ c, c < C → K (51 + c) = f (11 + 7 * c) ∧ K (61 + c) = f (12 + 7 * c) ∧ K (71 + c) = f (13 + 7 * c) ∧ K (81 + c) = f (14 + 7 * c) ∧ K (8 + c) = f (15 + 7 * c) ∧ K (18 + c) = f (16 + 7 * c) ∧ K (28 + c) = f (17 + 7 * c)
def aBusyP (f : Nat → Int32) (l : Int32) (c : Nat) : Bool := decide (f (15 + 7 * c) = 1) && (decide (f (11 + 7 * c) = l) || decide (f (16 + 7 * c) = l))
def aBusy (C : Nat) (f : Nat → Int32) (l : Int32) : Int32 := fnd (aBusyP f l) C 0
def aOnP (f : Nat → Int32) (k : Int32) (c : Nat) : Bool := decide (f (15 + 7 * c) = 1) && decide (f (17 + 7 * c) = k)
def aOn (C : Nat) (f : Nat → Int32) (k : Int32) : Int32 := fnd (aOnP f k) C 0
def aFreeP (P : PL) (C : Nat) (f : Nat → Int32) (l m : Int32) (k : Nat) : Bool := hasB (pRe P k) l && hasB (pRe P k) m && decide (aOn C f (nI k) = -1)
def aFree (P : PL) (C : Nat) (f : Nat → Int32) (l m : Int32) : Int32 := fnd (aFreeP P C f l m) (pC P) 0
theorem fnd_congr {p q : Nat → Bool} : ∀ (r c : Nat), (∀ j, c ≤ j → j < c + r → p j = q j) → fnd p r c = fnd q r c
  | 0, _, _ => rfl
  | r + 1, c, h => by
    simp only [fnd]
    rw [h c (Nat.le_refl _) (by omega), fnd_congr r (c + 1) (fun j h1 h2 => h j (by omega) (by omega))]
section RBd
variable {S : mkS} {I : mkI} {L : mkL} {R : mkR} {n : Nat × Nat}
theorem e_busy (hs : St S R) {C : Nat} {f : Nat → Int32} (hB : RBoard C f (I 198)) (l : Int32) : F_X12_busyIn (some 197) l (mk S I L R n) = some (aBusy C f l, mk S I L R n) := by
  obtain ⟨b1, b2, b3, b4, b5, b6, b7⟩ := hB
  rw [e_busyIn hs l b1 (by rw [b4, b2])]
  congr 2
  exact fnd_congr _ _ (fun j _ h2 => by obtain ⟨q1, q2, q3, q4, q5, q6, q7⟩ := b7 j (by omega); simp only [kBusyP, aBusyP, q1, q5, q6])
def kOnP (K : Nat → Int32) (l : Int32) (c : Nat) : Bool := decide (K (8 + c) = 1) && decide (K (28 + c) = l)
theorem e_callOnL (hs : St S R) (l : Int32) {C : Nat} (hC : C ≤ 10) (hK : I 198 7 = nI C) : ∀ (r f c : Nat), c + r = C → r < f → F_X12_callOn_2 f (some 197) l (nI c) (mk S I L R n) = some (fnd (kOnP (I 198) l) r c, mk S I L R n) := by
  intro r
  induction r with
  | zero =>
    intro f c hc hf
    obtain ⟨f, rfl⟩ : ∃ g, f = g + 1 := ⟨f - 1, by omega⟩
    have h1 : nI C ≤ nI c := nI_le (by omega) (by omega)
    simp only [F_X12_callOn_2, cv_197 hs, e_calls hs, b2_some, hK, h1, if_true, fnd]
  | succ r ih =>
    intro f c hc hf
    obtain ⟨f, rfl⟩ : ∃ g, f = g + 1 := ⟨f - 1, by omega⟩
    have h1 : ¬ nI C ≤ nI c := nI_ge (by omega) (by omega)
    have ih := ih f (c + 1) (by omega) (by omega)
    simp only [F_X12_callOn_2, cv_197 hs, e_calls hs, b2_some, hK, h1, if_false, gr_197_0 hs, Option.bind_some, li_add 8, li_add 28, ai_198 hs (show 8 + c < 3205 by omega), ai_198 hs (show 28 + c < 3205 by omega), F_X12_callOn_38, li_add' 1, ih, fnd, kOnP]
    by_cases q1 : I 198 (8 + c) = 1 <;> by_cases q2 : I 198 (28 + c) = l <;> simp [q1, q2]
theorem e_callOn (hs : St S R) {C : Nat} {f : Nat → Int32} (hB : RBoard C f (I 198)) (l : Int32) : F_X12_callOn (some 197) l (mk S I L R n) = some (aOn C f l, mk S I L R n) := by
  obtain ⟨b1, b2, b3, b4, b5, b6, b7⟩ := hB
  have := e_callOnL (n := n) (L := L) (I := I) hs l b1 (by rw [b4, b2]) C mm_N 0 (by omega) (by show C < 1000000; omega)
  unfold F_X12_callOn
  rw [show (0 : Int32) = nI 0 from rfl, this]
  congr 2
  exact fnd_congr _ _ (fun j _ h2 => by obtain ⟨q1, q2, q3, q4, q5, q6, q7⟩ := b7 j (by omega); simp only [kOnP, aOnP, q5, q7])
theorem e_freeL (hs : St S R) {P : PL} (hP : PlOK P) (hKP : RPlan P (I 198)) {C : Nat} {f : Nat → Int32} (hB : RBoard C f (I 198)) (l m : Int32) : ∀ (r g k : Nat), k + r = pC P → r < g → F_X12_freeCord_2 g (some 197) l m (nI k) (mk S I L R n) = some (fnd (aFreeP P C f l m) r k, mk S I L R n) := by
  obtain ⟨-, -, w3, -⟩ := hP
  obtain ⟨-, -, p2, p3, -⟩ := hKP
  intro r
  induction r with
  | zero =>
    intro g k hk hg
    obtain ⟨g, rfl⟩ : ∃ z, g = z + 1 := ⟨g - 1, by omega⟩
    have h1 : nI (pC P) ≤ nI k := nI_le (by omega) (by omega)
    simp only [F_X12_freeCord_2, gr_197_0 hs, Option.bind_some, ail_198 hs (show 2 < 3205 by decide), p2, h1, if_true, fnd]
  | succ r ih =>
    intro g k hk hg
    obtain ⟨g, rfl⟩ : ∃ z, g = z + 1 := ⟨g - 1, by omega⟩
    have h1 : ¬ nI (pC P) ≤ nI k := nI_ge (by omega) (by omega)
    have ih := ih g (k + 1) (by omega) (by omega)
    simp only [F_X12_freeCord_2, gr_197_0 hs, Option.bind_some, ail_198 hs (show 2 < 3205 by decide), p2, h1, if_false, li_add 48, ai_198 hs (show 48 + k < 3205 by omega), p3 k (by omega), e_has, b2_some, b2i_0, cv_197 hs, e_callOn hs hB, F_X12_freeCord_55, li_add' 1, ih, fnd, aFreeP]
    by_cases q1 : hasB (pRe P k) l = true <;> by_cases q2 : hasB (pRe P k) m = true <;> by_cases q3 : aOn C f (nI k) = -1 <;> simp [q1, q2, q3]
theorem e_free (hs : St S R) {P : PL} (hP : PlOK P) (hKP : RPlan P (I 198)) {C : Nat} {f : Nat → Int32} (hB : RBoard C f (I 198)) (l m : Int32) : F_X12_freeCord (some 197) l m (mk S I L R n) = some (aFree P C f l m, mk S I L R n) := by
  have w3 := hP.2.2.1
  exact e_freeL hs hP hKP hB l m (pC P) mm_N 0 (by omega) (by show pC P < 1000000; omega)
end RBd
