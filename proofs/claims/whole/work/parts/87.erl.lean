/-! long numbers, Euclid, Erlang's part -/
def nL (k : Nat) : Int64 := Int64.ofNat k
theorem nL_int {k : Nat} (h : k < 9223372036854775808) : (nL k).toInt = k := Int64.toInt_ofNat_of_lt (by omega)
theorem nL_add (a b : Nat) : nL a + nL b = nL (a + b) := (Int64.ofNat_add a b).symm
theorem nL_mul (a b : Nat) : nL a * nL b = nL (a * b) := (Int64.ofNat_mul a b).symm
theorem nL_sub {a b : Nat} (h : b ≤ a) : nL a - nL b = nL (a - b) := (Int64.ofNat_sub a b h).symm
theorem nL_nI {k : Nat} (h : k < 2147483648) : (nI k).toInt64 = nL k := by
  apply Int64.toInt_inj.mp
  rw [nL_int (by omega), Int32.toInt_toInt64, nI_toInt h]
theorem nL_inj {a b : Nat} (ha : a < 9223372036854775808) (hb : b < 9223372036854775808) : nL a = nL b ↔ a = b := by
  rw [← Int64.toInt_inj, nL_int ha, nL_int hb]
  omega
theorem nL_div {a b : Nat} (ha : a < 9223372036854775808) (hb : b < 9223372036854775808) (h0 : 0 < b) : nL a / nL b = nL (a / b) := by
  apply Int64.toInt_inj.mp
  have hne : nL b ≠ -1 := fun e => by
    have := congrArg Int64.toInt e
    rw [nL_int hb] at this
    have e2 : (-1 : Int64).toInt = -1 := by decide
    omega
  have hd : a / b ≤ a := Nat.div_le_self a b
  rw [Int64.toInt_div_of_ne_right _ _ hne, nL_int ha, nL_int hb, nL_int (by omega)]
  rfl
theorem nL_mod {a b : Nat} (ha : a < 9223372036854775808) (hb : b < 9223372036854775808) (h0 : 0 < b) : nL a - nL a / nL b * nL b = nL (a % b) := by
  have h1 : a / b * b ≤ a := Nat.div_mul_le_self a b
  rw [nL_div ha hb h0, nL_mul, nL_sub h1]
  congr 1
  have := Nat.div_add_mod a b
  rw [Nat.mul_comm b (a / b)] at this
  omega
theorem nL_gt {a b : Nat} (ha : a < 9223372036854775808) (hb : b < 9223372036854775808) : (nL a > nL b) = (b < a) := by
  apply propext
  show nL b < nL a ↔ _
  rw [Int64.lt_iff_toInt_lt, nL_int ha, nL_int hb]
  omega
theorem nL_cmp {a b : Nat} (ha : a < 9223372036854775808) (hb : b < 9223372036854775808) : lg_cmp (nL a) (nL b) = if b < a then 1 else if a = b then 0 else -1 := by
  unfold lg_cmp
  simp only [nL_gt ha hb, nL_inj ha hb]
theorem half_step {x y f : Nat} (hy : 0 < y) (hxy : y ≤ x) (h : x * y < 2 ^ (f + 1)) : y * (x % y) < 2 ^ f := by
  have h1 := Nat.div_add_mod x y
  have h2 : 1 ≤ x / y := (Nat.one_le_div_iff hy).mpr hxy
  have h3 : y * 1 ≤ y * (x / y) := Nat.mul_le_mul_left y h2
  have h4 := Nat.mod_lt x hy
  have h5 : x % y + x % y ≤ x := by omega
  have h6 : y * (x % y + x % y) ≤ y * x := Nat.mul_le_mul_left y h5
  rw [Nat.mul_add, Nat.mul_comm y x] at h6
  rw [Nat.pow_succ] at h
  omega
section EU
variable {H : MH}
theorem c_gcd : ∀ (f g x y l : Nat), y ≤ x → x < 9223372036854775808 → x * y < 2 ^ f → f + l < 200 → f < g → F_X11_commonDivisor_9 g (nL x) (nL y) (nI l) H = some (nL (Nat.gcd y x), H) := by
  intro f
  induction f with
  | zero =>
    intro g x y l hy hx hxy hl hg
    obtain ⟨g, rfl⟩ : ∃ z, g = z + 1 := ⟨g - 1, by omega⟩
    have h0 : y = 0 := by
      rcases Nat.eq_zero_or_pos y with h | h
      · exact h
      · have : 0 < x * y := Nat.mul_pos (by omega) h
        omega
    subst h0
    simp only [F_X11_commonDivisor_9]
    rw [if_neg (ge_li 200 (by omega) (by decide)), if_pos (by decide), Nat.gcd_zero_left]
    rfl
  | succ f ih =>
    intro g x y l hy hx hxy hl hg
    obtain ⟨g, rfl⟩ : ∃ z, g = z + 1 := ⟨g - 1, by omega⟩
    simp only [F_X11_commonDivisor_9]
    rw [if_neg (ge_li 200 (by omega) (by decide))]
    rcases Nat.eq_zero_or_pos y with h | h
    · subst h
      rw [if_pos (by decide), Nat.gcd_zero_left]
      rfl
    · have e0 : ¬ lg_cmp (nL y) 0 = 0 := by
        rw [show (0 : Int64) = nL 0 from rfl, nL_cmp (by omega) (by decide), if_pos h]; decide
      have e1 : ¬ nL y = 0 := fun q => by
        rw [show (0 : Int64) = nL 0 from rfl, nL_inj (by omega) (by decide)] at q; omega
      have := Nat.mod_lt x h
      rw [if_neg e0, if_neg e1, nL_mod hx (by omega) h, nI_1, ih g y (x % y) (l + 1) (by omega) (by omega) (half_step h hy hxy) (by omega) (by omega), Nat.gcd_rec y x]
theorem e_gcd : ∀ (f g x y : Nat), y ≤ x → x < 9223372036854775808 → x * y < 2 ^ f → f < g → F_X12_common_6 g (nL x) (nL y) H = some (nL (Nat.gcd y x), H) := by
  intro f
  induction f with
  | zero =>
    intro g x y hy hx hxy hg
    obtain ⟨g, rfl⟩ : ∃ z, g = z + 1 := ⟨g - 1, by omega⟩
    have h0 : y = 0 := by
      rcases Nat.eq_zero_or_pos y with h | h
      · exact h
      · have : 0 < x * y := Nat.mul_pos (by omega) h
        omega
    subst h0
    simp only [F_X12_common_6]
    rw [if_pos (by decide), Nat.gcd_zero_left]
  | succ f ih =>
    intro g x y hy hx hxy hg
    obtain ⟨g, rfl⟩ : ∃ z, g = z + 1 := ⟨g - 1, by omega⟩
    simp only [F_X12_common_6]
    rcases Nat.eq_zero_or_pos y with h | h
    · subst h
      rw [if_pos (by decide), Nat.gcd_zero_left]
    · have e0 : ¬ lg_cmp (nL y) 0 = 0 := by
        rw [show (0 : Int64) = nL 0 from rfl, nL_cmp (by omega) (by decide), if_pos h]; decide
      have e1 : ¬ nL y = 0 := fun q => by
        rw [show (0 : Int64) = nL 0 from rfl, nL_inj (by omega) (by decide)] at q; omega
      have := Nat.mod_lt x h
      rw [if_neg e0, if_neg e1, nL_mod hx (by omega) h, ih g y (x % y) (by omega) (by omega) (half_step h hy hxy) (by omega), Nat.gcd_rec y x]
theorem c_cd {x y : Nat} (hy : y ≤ x) (hx : x < 9223372036854775808) : F_X11_commonDivisor (nL x) (nL y) H = some (nL (Nat.gcd y x), H) := by
  unfold F_X11_commonDivisor
  refine c_gcd 126 mm_N x y 0 hy hx ?_ (by decide) (by unfold mm_N; decide)
  have h1 : x * y ≤ x * x := Nat.mul_le_mul_left x hy
  have h2 : x * x ≤ 9223372036854775807 * 9223372036854775807 := Nat.mul_le_mul (by omega) (by omega)
  exact Nat.lt_of_le_of_lt (Nat.le_trans h1 h2) (by decide)
theorem e_cd {x y : Nat} (h0 : 0 < x) (hy : y ≤ x) (hx : x < 9223372036854775808) : F_X12_common (nL y) (nL x) H = some (nL (Nat.gcd y x), H) := by
  unfold F_X12_common
  have h1 : x * y ≤ x * x := Nat.mul_le_mul_left x hy
  have h2 : x * x ≤ 9223372036854775807 * 9223372036854775807 := Nat.mul_le_mul (by omega) (by omega)
  have h3 : x * y < 2 ^ 126 := Nat.lt_of_le_of_lt (Nat.le_trans h1 h2) (by decide)
  obtain ⟨g, eg⟩ : ∃ g, mm_N = g + 1 := ⟨mm_N - 1, by unfold mm_N; omega⟩
  have hg : 126 < g := by have : mm_N = 1000000 := rfl; omega
  rw [eg]
  simp only [F_X12_common_6]
  have e0 : ¬ lg_cmp (nL x) 0 = 0 := by
    rw [show (0 : Int64) = nL 0 from rfl, nL_cmp (by omega) (by decide), if_pos h0]; decide
  have e1 : ¬ nL x = 0 := fun q => by
    rw [show (0 : Int64) = nL 0 from rfl, nL_inj (by omega) (by decide)] at q; omega
  rw [if_neg e0, if_neg e1, nL_mod (by omega) hx h0]
  by_cases q : y = x
  · subst q
    rw [Nat.mod_self, e_gcd 126 g y 0 (by omega) hx (by simp) hg, Nat.gcd_zero_left, Nat.gcd_self]
  · rw [Nat.mod_eq_of_lt (by omega), e_gcd 126 g x y hy hx h3 hg]
end EU
/-- above and below after i lines -/
def er (a b : Nat) : Nat → Nat × Nat
  | 0 => (1, 1)
  | i + 1 => ((a * (er a b i).1) / Nat.gcd (a * (er a b i).1) (b * (i + 1) * (er a b i).2 + a * (er a b i).1), (b * (i + 1) * (er a b i).2 + a * (er a b i).1) / Nat.gcd (a * (er a b i).1) (b * (i + 1) * (er a b i).2 + a * (er a b i).1))
def erB : Nat → Nat
  | 0 => 1
  | i + 1 => (20 * (i + 1) + 20) * erB i
theorem er_step {a b i p q : Nat} (ha : 1 ≤ a) (ha2 : a ≤ 20) (hb2 : b ≤ 20) (hp : 1 ≤ p) (hq : p ≤ q) (hB : q ≤ erB i) : 1 ≤ a * p ∧ a * p ≤ b * (i + 1) * q + a * p ∧ b * (i + 1) * q + a * p ≤ erB (i + 1) := by
  refine ⟨Nat.mul_pos ha hp, by omega, ?_⟩
  have h1 : a * p ≤ 20 * erB i := Nat.mul_le_mul ha2 (by omega)
  have h2 : b * (i + 1) * q ≤ 20 * (i + 1) * erB i := Nat.mul_le_mul (Nat.mul_le_mul hb2 (Nat.le_refl _)) hB
  show _ ≤ (20 * (i + 1) + 20) * erB i
  rw [Nat.add_mul]
  omega
theorem er_ok {a b : Nat} (ha : 1 ≤ a) (ha2 : a ≤ 20) (hb2 : b ≤ 20) : ∀ i, 1 ≤ (er a b i).1 ∧ (er a b i).1 ≤ (er a b i).2 ∧ (er a b i).2 ≤ erB i
  | 0 => ⟨Nat.le_refl 1, Nat.le_refl 1, Nat.le_refl 1⟩
  | i + 1 => by
    obtain ⟨h1, h2, h3⟩ := er_ok ha ha2 hb2 i
    obtain ⟨s1, s2, s3⟩ := er_step (b := b) ha ha2 hb2 h1 h2 h3
    have hg : 0 < Nat.gcd (a * (er a b i).1) (b * (i + 1) * (er a b i).2 + a * (er a b i).1) := Nat.gcd_pos_of_pos_left _ s1
    refine ⟨?_, ?_, ?_⟩
    · exact (Nat.one_le_div_iff hg).mpr (Nat.gcd_le_left _ s1)
    · exact Nat.div_le_div_right s2
    · exact Nat.le_trans (Nat.div_le_self _ _) s3
theorem erB_le : ∀ i < 9, erB i ≤ 9289728000000000 := by decide
