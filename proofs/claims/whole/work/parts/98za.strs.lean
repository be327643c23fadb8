/-! strings that lie there from the start; kinds of bytes -/
section SG
variable {Ls : Nat} {xs : Nat → Int32} {S : mkS} {I : mkI} {L : mkL} {R : mkR} {n : Nat × Nat}
theorem j_len (hl : Low Ls xs S I R) {a : Nat} (ha : a < 51) : F_J0_length_8abf5 (some a) (mk S I L R n) = some (nI (mm_byt a).length, mk S I L R n) := by
  obtain ⟨s1, s2, s3, s4, s5⟩ := hl.1 a ha
  have e0 : ∀ x : Int32, x >>> ((0 : Int32) &&& 31) = x := fun x => by
    rw [← Int32.toBitVec_inj, Int32.toBitVec_shiftRight]; simp
  unfold F_J0_length_8abf5 F_J0_coder_7d493 F_J0_coder_7d493_14
  rw [mk_gR (c := 13) (k := 0) (by rw [s1]) rfl, Option.bind_some, s2, mk_aNt2 s4, Option.bind_some, mk_cV (c := 13) (by rw [s1]), if_neg (by decide), mk_gI (c := 13) (k := 1) (by rw [s1]) rfl, Option.bind_some, s3]
  unfold rB
  rw [if_pos (by decide), b2_some, e0]
theorem j_lat (hl : Low Ls xs S I R) {a : Nat} (ha : a < 51) : F_J0_isLatin1_aae02 (some a) (mk S I L R n) = some (1, mk S I L R n) := by
  obtain ⟨s1, s2, s3, s4, s5⟩ := hl.1 a ha
  unfold F_J0_isLatin1_aae02 F_J0_isLatin1_aae02_18
  rw [if_neg (by decide), mk_gI (c := 13) (k := 1) (by rw [s1]) rfl, Option.bind_some, s3, if_pos rfl, rZ_1]
  rfl
theorem byt_lt : ∀ a < 51, ∀ j < (mm_byt a).length, ((((mm_byt a).getD j 0 &&& (255 : Int32)).toUInt32 % 65536).toInt32 = (mm_byt a).getD j 0) ∧ (mm_byt a).length < 100 ∧ (((mm_byt a).getD j 0).toUInt32 % 65536).toInt32 = (mm_byt a).getD j 0 := by decide +kernel
theorem j_char (hl : Low Ls xs S I R) {a k : Nat} (ha : a < 51) (hk : k < (mm_byt a).length) : F_J0_charAt_5068e (some a) (nI k) (mk S I L R n) = some ((mm_byt a).getD k 0, mk S I L R n) := by
  obtain ⟨s1, s2, s3, s4, s5⟩ := hl.1 a ha
  obtain ⟨b1, b2, b3⟩ := byt_lt a ha k hk
  unfold F_J0_charAt_5068e F_J1_charAt_3b067 F_J0_checkIndex_df160 F_J3_checkIndex_8e157
  rw [mk_cV (c := 13) (by rw [s1]), j_lat hl ha, b2_some, if_neg (by decide), mk_gR (c := 13) (k := 0) (by rw [s1]) rfl, Option.bind_some, s2, mk_aNt2 s4, Option.bind_some, if_neg (nI_pos (by omega)), if_pos (nI_lt hk (by omega)), b2_some, Option.bind_some, mk_aI2 s4 (nI_pos (by omega)) (by rw [nI_clamp (by omega)]; exact hk), Option.bind_some, nI_clamp (by omega), s5 k hk, b1]
  unfold rC
  rw [if_pos b3, b2_some, if_pos b3]
end SG
/-- a byte as the class's row holds it -/
def sb (b : Nat) : Int32 := (nI b).toInt8.toInt32
def isSp (b : Nat) : Bool := decide (b = 10 ∨ b = 32)
def isLt (b : Nat) : Bool := decide (97 ≤ b ∧ b ≤ 122)
def isDg (b : Nat) : Bool := decide (48 ≤ b ∧ b ≤ 57)
def sgL : List Nat := [59, 58, 43, 45, 42, 40, 41, 91, 93, 61, 60, 62]
def isSg (b : Nat) : Bool := sgL.contains b
theorem sb_all : ∀ b < 256, (sb b = 10 ↔ b = 10) ∧ (sb b = 32 ↔ b = 32) ∧ (isLt b = true ↔ ¬ sb b < 97 ∧ ¬ (122 : Int32) < sb b) ∧ (isDg b = true ↔ ¬ sb b < 48 ∧ ¬ (57 : Int32) < sb b) ∧ (sb b ≤ 32 → isSg b = false) ∧ (¬ sb b ≤ 32 → sb b = nI b ∧ b < 128) ∧ (b < 128 → sb b = nI b) ∧ (isSg b = true → b < 128) := by decide +kernel
theorem nb_all : ∀ b < 256, (nI b = 10 ↔ b = 10) ∧ (nI b = 32 ↔ b = 32) ∧ (isLt b = true ↔ ¬ nI b < 97 ∧ ¬ (122 : Int32) < nI b) ∧ (isDg b = true ↔ ¬ nI b < 48 ∧ ¬ (57 : Int32) < nI b) := by decide +kernel
theorem sg_all : ∀ b < 256, (isSg b = true ↔ b = 91 ∨ b = 93 ∨ b = 61 ∨ b = 60 ∨ b = 62 ∨ b = 58 ∨ b = 59 ∨ b = 43 ∨ b = 45 ∨ b = 42 ∨ b = 40 ∨ b = 41) := by decide +kernel
/-! tokens -/
def rn (p : Nat → Bool) (tb : Nat → Nat) : Nat → Nat → Nat
  | 0, q => q
  | r + 1, q => if p (tb q) = true then rn p tb r (q + 1) else q
/-- where it begins, where it ends, its kind: 0 the end, 1 none, 2 a word, 3 a number, 4 a sign -/
abbrev TKN : Type := Nat × Nat × Nat
def lxAt (tb : Nat → Nat) (N s : Nat) : TKN := if N ≤ s then (s, s, 0) else if isLt (tb s) = true then (s, rn isLt tb (N - s) s, 2) else if isDg (tb s) = true then (s, rn isDg tb (N - s) s, if 3 < rn isDg tb (N - s) s - s then 1 else 3) else (s, s + 1, if isSg (tb s) = true then 4 else 1)
def lx (tb : Nat → Nat) (N q : Nat) : TKN := lxAt tb N (rn isSp tb (N - q) q)
theorem rn_b {p : Nat → Bool} {tb : Nat → Nat} : ∀ (r q : Nat), q ≤ rn p tb r q ∧ rn p tb r q ≤ q + r
  | 0, q => ⟨Nat.le_refl _, Nat.le_refl _⟩
  | r + 1, q => by
    rw [rn]
    split
    · have := rn_b (p := p) (tb := tb) r (q + 1); omega
    · omega
theorem rn_1 {p : Nat → Bool} {tb : Nat → Nat} {r q : Nat} (hr : 0 < r) (h : p (tb q) = true) : q + 1 ≤ rn p tb r q := by
  obtain ⟨r, rfl⟩ : ∃ y, r = y + 1 := ⟨r - 1, by omega⟩
  rw [rn, if_pos h]
  exact (rn_b r (q + 1)).1
/-- a token that could be one -/
def TKo (N : Nat) (t : TKN) : Prop := t.1 ≤ N ∧ t.2.1 ≤ N ∧ t.1 ≤ t.2.1 ∧ t.2.2 ≤ 4 ∧ (t.2.2 ≠ 0 → t.1 < t.2.1)
theorem lxAt_ok {tb : Nat → Nat} {N s : Nat} (h : s ≤ N) : TKo N (lxAt tb N s) ∧ (lxAt tb N s).1 = s := by
  unfold lxAt TKo
  by_cases e : N ≤ s
  · rw [if_pos e]
    exact ⟨⟨by show s ≤ N; omega, by show s ≤ N; omega, Nat.le_refl _, (by show (0 : Nat) ≤ 4; decide), fun h => absurd rfl h⟩, rfl⟩
  · rw [if_neg e]
    by_cases e1 : isLt (tb s) = true
    · rw [if_pos e1]
      have h1 := rn_b (p := isLt) (tb := tb) (N - s) s
      have h2 := rn_1 (p := isLt) (tb := tb) (r := N - s) (q := s) (by omega) e1
      exact ⟨⟨h, by show rn _ _ _ _ ≤ N; omega, h1.1, (by show (2 : Nat) ≤ 4; decide), fun _ => h2⟩, rfl⟩
    · rw [if_neg e1]
      by_cases e2 : isDg (tb s) = true
      · rw [if_pos e2]
        have h1 := rn_b (p := isDg) (tb := tb) (N - s) s
        have h2 := rn_1 (p := isDg) (tb := tb) (r := N - s) (q := s) (by omega) e2
        refine ⟨⟨h, by show rn _ _ _ _ ≤ N; omega, h1.1, ?_, fun _ => h2⟩, rfl⟩
        show (if _ then 1 else 3) ≤ 4
        split <;> decide
      · rw [if_neg e2]
        refine ⟨⟨h, by show s + 1 ≤ N; omega, Nat.le_succ _, ?_, fun _ => Nat.lt_succ_self _⟩, rfl⟩
        show (if _ then 4 else 1) ≤ 4
        split <;> decide
theorem lx_ok {tb : Nat → Nat} {N q : Nat} (h : q ≤ N) : TKo N (lx tb N q) ∧ q ≤ (lx tb N q).1 := by
  have h1 := rn_b (p := isSp) (tb := tb) (N - q) q
  obtain ⟨a, b⟩ := lxAt_ok (tb := tb) (N := N) (s := rn isSp tb (N - q) q) (by omega)
  exact ⟨a, by show q ≤ (lxAt tb N (rn isSp tb (N - q) q)).1; rw [b]; exact h1.1⟩
