/-! the class's slip and the reference's are one -/
theorem fm_eq {to w : Nat} (hw : 0 < w) (hw2 : w ≤ 8) (hto : to < w) {v : Int32} (hv : bdd v) : remI (nI to + mm_fm v (nI w)) (nI w) = if remI (nI to + v) (nI w) < 0 then remI (nI to + v) (nI w) + nI w else remI (nI to + v) (nI w) := by
  obtain ⟨k, hk, ek, mk⟩ := fm_k hw hw2 hv
  obtain ⟨v1, v2⟩ := hv
  have hs : (nI to + v).toInt = (to : Int) + v.toInt := by rw [Int32.toInt_add, nI_toInt (by omega), Int.bmod_eq_of_le (by omega) (by omega)]
  have r2 := remI_toInt (x := nI to + v) (w := w) hw (by omega) (by rw [hs]; omega)
  have b2 := tmod_bounds (a := (nI to + v).toInt) (M := (w : Int)) (by omega)
  have d2 := Int.tmod_def (nI to + v).toInt (w : Int)
  have e1 : remI (nI to + mm_fm v (nI w)) (nI w) = nI ((to + k) % w) := by
    rw [ek, nI_add]; exact pk_rem (by omega) hw (by omega)
  rw [e1]
  have hm : ((to : Int) + v.toInt) % (w : Int) = (((to + k) % w : Nat) : Int) := by
    rw [Int.add_emod, mk]
    have : ((k : Int) % (w : Int)) = k := Int.emod_eq_of_lt (by omega) (by omega)
    conv => lhs; rw [← this]
    rw [← Int.add_emod]
    norm_cast
  rw [← hs] at hm
  have em : ∀ m : Int, 0 ≤ m → m < w → (∃ q : Int, (nI to + v).toInt = m + w * q) → (nI to + v).toInt % (w : Int) = m := by
    intro m h1 h2 ⟨q, h3⟩
    rw [h3, Int.add_mul_emod_self_left, Int.emod_eq_of_lt h1 h2]
  generalize ht : remI (nI to + v) (nI w) = t at r2 ⊢
  have hlt : (to + k) % w < w := Nat.mod_lt _ hw
  by_cases q : t < 0
  · rw [if_pos q]
    rw [Int32.lt_iff_toInt_lt] at q
    have q : t.toInt < 0 := q
    symm
    apply i32_of _ (by omega)
    rw [Int32.toInt_add, nI_toInt (by omega), Int.bmod_eq_of_le (by omega) (by omega), ← hm]
    rw [em (t.toInt + w) (by omega) (by omega) ⟨(nI to + v).toInt.tdiv w - 1, by rw [Int.mul_sub]; omega⟩]
  · rw [if_neg q]
    rw [Int32.lt_iff_toInt_lt] at q
    have q : ¬ t.toInt < 0 := q
    symm
    apply i32_of _ (by omega)
    rw [← hm, em t.toInt (by omega) (by omega) ⟨(nI to + v).toInt.tdiv w, by omega⟩]
