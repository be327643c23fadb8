/-! the reference: small things -/
def b2i (b : Bool) : Int32 := if b then 1 else 0
theorem b2i_0 (b : Bool) : (b2i b = 0) = (b = false) := by cases b <;> simp [b2i]
theorem b2i_1 (b : Bool) : (b2i b = 1) = (b = true) := by cases b <;> simp [b2i]
theorem rZ_b (b : Bool) (h : MH) : rZ (b2i b) h = some (b2i b, h) := by cases b <;> rfl
theorem rZX_b (b : Bool) (h : MH) : rZX (b2i b) h = some (.inr (b2i b), h) := by cases b <;> rfl
theorem rZ_0 (h : MH) : rZ 0 h = some (b2i false, h) := rfl
theorem rZ_1 (h : MH) : rZ 1 h = some (b2i true, h) := rfl
theorem b2_some {α γ : Type} (a : α) (h : MH) (f : α → MH → Option γ) : mm_b2 (some (a, h)) f = f a h := rfl
theorem b3_some {α β : Type} (a : α) (h : MH) (f : α → MH → Option ((String ⊕ β) × MH)) : mm_b3 (some (.inr a, h)) f = f a h := rfl
theorem b3_thr {α β : Type} (E : String) (h : MH) (f : α → MH → Option ((String ⊕ β) × MH)) : mm_b3 (some (.inl E, h)) f = some (.inl E, h) := rfl
theorem li_add (a c : Nat) : (OfNat.ofNat a : Int32) + nI c = nI (a + c) := nI_add a c
theorem li_add' (a c : Nat) : nI c + (OfNat.ofNat a : Int32) = nI (c + a) := nI_add c a
theorem li_0 : (0 : Int32) = nI 0 := rfl
def hasB (s k : Int32) : Bool := decide ((s >>> (k &&& 31)) &&& 1 = 1)
def inL (v lo hi : Int64) : Bool := decide (lo ≤ v) && decide (v ≤ hi)
theorem e_has (s k : Int32) (h : MH) : F_X12_has s k h = some (b2i (hasB s k), h) := by
  unfold F_X12_has F_X12_has_14 hasB
  split <;> simp [*, b2i, rZ]
theorem e_within (v lo hi : Int64) (h : MH) : F_X12_within v lo hi h = some (b2i (inL v lo hi), h) := by
  unfold F_X12_within F_X12_within_17 F_X12_within_18 inL
  simp only [lg_cmp_lt, lg_cmp_gt]
  by_cases h1 : v < lo
  · have h2 : ¬ lo ≤ v := by rw [Int64.lt_iff_toInt_lt] at h1; rw [Int64.le_iff_toInt_le]; omega
    simp [h1, h2, rZ, b2i]
  · have h2 : lo ≤ v := by rw [Int64.lt_iff_toInt_lt] at h1; rw [Int64.le_iff_toInt_le]; omega
    by_cases h3 : hi < v
    · have h4 : ¬ v ≤ hi := by rw [Int64.lt_iff_toInt_lt] at h3; rw [Int64.le_iff_toInt_le]; omega
      simp [h1, h2, h3, h4, rZ, b2i]
    · have h4 : v ≤ hi := by rw [Int64.lt_iff_toInt_lt] at h3; rw [Int64.le_iff_toInt_le]; omega
      simp [h1, h2, h3, h4, rZ, b2i]
section RB
variable {S : mkS} {I : mkI} {L : mkL} {R : mkR} {n : Nat × Nat}
theorem ail_198 {k : Nat} (hs : St S R) (h : k < 3205) : aI (mk S I L R n) (some 198) 0 (OfNat.ofNat k : Int32) = some (I 198 k) := ai_198 hs h
theorem e_calls (hs : St S R) : F_X12_calls (some 197) (mk S I L R n) = some (I 198 7, mk S I L R n) := by
  simp only [F_X12_calls, gr_197_0 hs, Option.bind_some, ail_198 hs (show 7 < 3205 by decide)]
theorem e_isShut (hs : St S R) (l : Int32) : F_X12_isShut (some 197) l (mk S I L R n) = some (b2i (hasB (I 198 46) l), mk S I L R n) := by
  simp only [F_X12_isShut, gr_197_0 hs, Option.bind_some, ail_198 hs (show 46 < 3205 by decide), e_has, b2_some, rZ_b]
theorem e_isLine (hs : St S R) (l : Int64) : F_X12_isLine (some 197) l (mk S I L R n) = some (b2i (inL l 0 (I 198 1 - 1).toInt64), mk S I L R n) := by
  simp only [F_X12_isLine, gr_197_0 hs, Option.bind_some, ail_198 hs (show 1 < 3205 by decide), e_within, b2_some, rZ_b]
theorem e_isCall (hs : St S R) (l : Int64) : F_X12_isCall (some 197) l (mk S I L R n) = some (b2i (inL l 0 (I 198 7 - 1).toInt64), mk S I L R n) := by
  simp only [F_X12_isCall, cv_197 hs, e_calls hs, b2_some, e_within, rZ_b]
/-- the first c from c on, r at most, with p -/
def fnd (p : Nat → Bool) : Nat → Nat → Int32
  | 0, _ => -1
  | r + 1, c => if p c then nI c else fnd p r (c + 1)
def kBusyP (K : Nat → Int32) (l : Int32) (c : Nat) : Bool := decide (K (8 + c) = 1) && (decide (K (51 + c) = l) || decide (K (18 + c) = l))
theorem e_busyL (hs : St S R) (l : Int32) {C : Nat} (hC : C ≤ 10) (hK : I 198 7 = nI C) : ∀ (r f c : Nat), c + r = C → r < f → F_X12_busyIn_2 f (some 197) l (nI c) (mk S I L R n) = some (fnd (kBusyP (I 198) l) r c, mk S I L R n) := by
  intro r
  induction r with
  | zero =>
    intro f c hc hf
    obtain ⟨f, rfl⟩ : ∃ g, f = g + 1 := ⟨f - 1, by omega⟩
    have h1 : nI C ≤ nI c := nI_le (by omega) (by omega)
    simp only [F_X12_busyIn_2, cv_197 hs, e_calls hs, b2_some, hK, h1, if_true, fnd]
  | succ r ih =>
    intro f c hc hf
    obtain ⟨f, rfl⟩ : ∃ g, f = g + 1 := ⟨f - 1, by omega⟩
    have h1 : ¬ nI C ≤ nI c := nI_ge (by omega) (by omega)
    have ih := ih f (c + 1) (by omega) (by omega)
    simp only [F_X12_busyIn_2, cv_197 hs, e_calls hs, b2_some, hK, h1, if_false, gr_197_0 hs, Option.bind_some, li_add 8, li_add 51, li_add 18, ai_198 hs (show 8 + c < 3205 by omega), ai_198 hs (show 51 + c < 3205 by omega), ai_198 hs (show 18 + c < 3205 by omega), F_X12_busyIn_51, F_X12_busyIn_49, li_add' 1, ih, fnd, kBusyP]
    by_cases q1 : I 198 (8 + c) = 1 <;> by_cases q2 : I 198 (51 + c) = l <;> by_cases q3 : I 198 (18 + c) = l <;> simp [q1, q2, q3]
theorem e_busyIn (hs : St S R) (l : Int32) {C : Nat} (hC : C ≤ 10) (hK : I 198 7 = nI C) : F_X12_busyIn (some 197) l (mk S I L R n) = some (fnd (kBusyP (I 198) l) C 0, mk S I L R n) := e_busyL hs l hC hK C mm_N 0 (by omega) (by show C < 1000000; omega)
end RB
