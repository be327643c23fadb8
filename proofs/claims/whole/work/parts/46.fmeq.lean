/-! the class's slip and the reference's are one -/
theorem tm_neg {a : Int} (w : Int) (h : a < 0) : a.tmod w ≤ 0 := by
  have h1 := Int.tmod_nonneg w (show 0 ≤ -a by omega)
  rw [Int.neg_tmod] at h1
  omega
theorem fm_k {w : Nat} (hw : 0 < w) (hw2 : w ≤ 8) {v : Int32} (hv : bdd v) : ∃ k : Nat, k < w ∧ mm_fm v (nI w) = nI k ∧ (v.toInt % (w : Int)) = k := by
  obtain ⟨v1, v2⟩ := hv
  have r1 := remI_toInt (x := v) (w := w) hw (by omega) (by omega)
  have b1 := tmod_bounds (a := v.toInt) (M := (w : Int)) (by omega)
  have d1 := Int.tmod_def v.toInt (w : Int)
  have em : ∀ m : Int, 0 ≤ m → m < w → (∃ q : Int, v.toInt = m + w * q) → v.toInt % (w : Int) = m := by
    intro m h1 h2 ⟨q, h3⟩
    rw [h3, Int.add_mul_emod_self_left, Int.emod_eq_of_lt h1 h2]
  have hx := xor_nn v (w := w) (by omega)
  unfold mm_fm
  show ∃ k : Nat, k < w ∧ (if 0 ≤ v ^^^ nI w then remI v (nI w) else if remI v (nI w) = 0 then remI v (nI w) else remI v (nI w) + nI w) = nI k ∧ _
  by_cases hp : 0 ≤ v
  · rw [if_pos (by rw [hx]; exact hp)]
    have hp' : 0 ≤ v.toInt := by rw [Int32.le_iff_toInt_le] at hp; exact hp
    have h0 := Int.tmod_nonneg (w : Int) hp'
    refine ⟨(v.toInt.tmod w).toNat, by omega, i32_of (by omega) (by omega), ?_⟩
    rw [em (v.toInt.tmod w) h0 (by omega) ⟨v.toInt.tdiv w, by omega⟩]; omega
  · rw [if_neg (by rw [hx]; exact hp)]
    have hp' : v.toInt < 0 := by rw [nn_lt] at hp; have := Classical.not_not.mp hp; rw [Int32.lt_iff_toInt_lt] at this; exact this
    have h0 := tm_neg (w : Int) hp'
    by_cases hz : remI v (nI w) = 0
    · rw [if_pos hz]
      have h9 : v.toInt.tmod w = 0 := by rw [← r1, hz]; rfl
      refine ⟨0, hw, hz, ?_⟩
      rw [em 0 (by omega) (by omega) ⟨v.toInt.tdiv w, by omega⟩]; rfl
    · rw [if_neg hz]
      have h9 : v.toInt.tmod w ≠ 0 := by
        intro h8
        apply hz
        apply Int32.toInt_inj.mp
        rw [r1, h8]; rfl
      refine ⟨(v.toInt.tmod w + w).toNat, by omega, i32_of ?_ (by omega), ?_⟩
      · rw [Int32.toInt_add, r1, nI_toInt (by omega), Int.bmod_eq_of_le (by omega) (by omega)]; omega
      · rw [em (v.toInt.tmod w + w) (by omega) (by omega) ⟨v.toInt.tdiv w - 1, by rw [Int.mul_sub]; omega⟩]; omega
