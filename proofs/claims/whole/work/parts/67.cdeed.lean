/-! the class keeps the board as it is -/
theorem mnI_nI {a b : Nat} (ha : a < 2147483648) (hb : b < 2147483648) : mnI (nI a) (nI b) = nI (min a b) := by
  unfold mnI
  by_cases h : b < a
  · rw [if_pos (nI_lt h (by omega)), show min a b = b by omega]
  · rw [if_neg (nI_nlt (by omega) (by omega)), show min a b = a by omega]
theorem mxI_nI {a b : Nat} (ha : a < 2147483648) (hb : b < 2147483648) : mxI (nI a) (nI b) = nI (max a b) := by
  unfold mxI
  by_cases h : a < b
  · rw [if_pos (nI_lt h (by omega)), show max a b = b by omega]
  · rw [if_neg (nI_nlt (by omega) (by omega)), show max a b = a by omega]
theorem nI_rem10 (a : Nat) (h : a < 1000000) : nI a - nI a / (10 : Int32) * (10 : Int32) = nI (a % 10) := pk_rem (a := a) (d := 10) (by omega) (by omega) (by omega)
section CDe
variable {S : mkS} {L : mkL} {R : mkR} {n : Nat × Nat} {b ca co dd rw' : Nat}
theorem dd_v (h : DdS S R dd rw') {I : mkI} {α : Type} {q : Option α} : cV (mk S I L R n) (some dd) 3 q = q := mk_cV (by rw [h.1])
theorem dd_0 (h : DdS S R dd rw') {I : mkI} : gR (mk S I L R n) (some dd) 3 0 = some (some rw') := (mk_gR (by rw [h.1]) rfl).trans (by rw [h.2.2.1])
theorem dd_1 (h : DdS S R dd rw') {I : mkI} : gI (mk S I L R n) (some dd) 3 1 = some (I dd 1) := mk_gI (by rw [h.1]) rfl
theorem dd_2 (h : DdS S R dd rw') {I : mkI} : gI (mk S I L R n) (some dd) 3 2 = some (I dd 2) := mk_gI (by rw [h.1]) rfl
theorem dd_p1 (h : DdS S R dd rw') {I : mkI} {x : Int32} : pI (mk S I L R n) (some dd) 3 1 x = some (mk S (up2 I dd 1 x) L R n) := mk_pI (by rw [h.1]) rfl h.2.1
theorem dd_p2 (h : DdS S R dd rw') {I : mkI} {x : Int32} : pI (mk S I L R n) (some dd) 3 2 x = some (mk S (up2 I dd 2 x) L R n) := mk_pI (by rw [h.1]) rfl h.2.1
theorem c_saveTo (hb : BdS S R b ca co) (h : DdS S R dd rw') (I : mkI) {q : Nat} (hq : q < 10) : F_X0_saveTo (some b) (some rw') (nI (81 * q)) (mk S I L R n) = some (mk S (up1 I rw' (va_cpy (I ca) (I rw') 0 (81 * q) 81)) L R n) := by
  have c1 : cpI (mk S I L R n) (some ca) (0 : Int32) (some rw') (nI (81 * q)) (81 : Int32) = some (mk S (up1 I rw' (va_cpy (I ca) (I rw') 0 (81 * q) 81)) L R n) := mk_cpI (sp := 0) (dp := 81 * q) (nn := 81) hb.2.2.2.1 h.2.2.2.1 (by decide) (by omega) (by decide) (by decide) h.2.2.2.2
  unfold F_X0_saveTo F_X0_saveTo_25
  rw [if_neg (nI_pos (by omega)), mk_aNt0 h.2.2.2.1, Option.bind_some, show (81 : Int32) = nI 81 from rfl, nI_sub (by omega), if_neg (nI_nlt (by omega) (by omega)), bd_g hb, Option.bind_some]
  exact (congrArg (fun z => z.bind fun h22 => some h22) c1)
theorem c_takeFrom (hb : BdS S R b ca co) (h : DdS S R dd rw') (I : mkI) {q : Nat} (hq : q < 10) : F_X0_takeFrom (some b) (some rw') (nI (81 * q)) (mk S I L R n) = some (mk S (up1 I ca (va_cpy (I rw') (I ca) (81 * q) 0 81)) L R n) := by
  have c1 : cpI (mk S I L R n) (some rw') (nI (81 * q)) (some ca) (0 : Int32) (81 : Int32) = some (mk S (up1 I ca (va_cpy (I rw') (I ca) (81 * q) 0 81)) L R n) := mk_cpI (sp := 81 * q) (dp := 0) (nn := 81) h.2.2.2.1 hb.2.2.2.1 (by omega) (by decide) (by decide) (by decide) hb.2.2.2.2.2
  unfold F_X0_takeFrom F_X0_takeFrom_25
  rw [if_neg (nI_pos (by omega)), mk_aNt0 h.2.2.2.1, Option.bind_some, show (81 : Int32) = nI 81 from rfl, nI_sub (by omega), if_neg (nI_nlt (by omega) (by omega)), bd_g hb, Option.bind_some]
  exact (congrArg (fun z => z.bind fun h22 => some h22) c1)
theorem c_keep (hb : BdS S R b ca co) (h : DdS S R dd rw') {I : mkI} {U : List BB} (hU : U.length ≤ 10) (hD : DdR U I dd rw') {u : BB} (hu : ∀ j, j < 81 → I ca j = u.2 j) : ∃ I', F_X3_keep (some dd) (some b) (mk S I L R n) = some (mk S I' L R n) ∧ DdR (keepU u U) I' dd rw' ∧ ∀ a, a ≠ dd → a ≠ rw' → I' a = I a := by
  obtain ⟨nx, d1, d2, d3, d4⟩ := hD
  have ddr : dd ≠ rw' := sh_ne h.1 h.2.2.2.1 (by decide)
  obtain ⟨I1, hI1⟩ : ∃ I1, I1 = up1 I rw' (va_cpy (I ca) (I rw') 0 (81 * nx) 81) := ⟨_, rfl⟩
  have s1 := c_saveTo (L := L) (n := n) hb h I d1
  rw [← hI1] at s1
  have u1 : I1 dd = I dd := by rw [hI1, up1_ne _ _ ddr]
  refine ⟨up2 (up2 I1 dd 1 (nI ((nx + 1) % 10))) dd 2 (nI (min (U.length + 1) 10)), ?_, ⟨(nx + 1) % 10, by omega, by rw [up2_row, up1_ne _ _ (by decide), up2_self], by rw [up2_self, keepU_len hU], fun i hi j hj => ?_⟩, fun a q1 q2 => by rw [up2_ne _ _ _ q1, up2_ne _ _ _ q1, hI1, up1_ne _ _ q2]⟩
  · unfold F_X3_keep
    rw [dd_0 h, Option.bind_some, dd_1 h, Option.bind_some, d2, show (81 : Int32) = nI 81 from rfl, nI_mul9, Nat.mul_comm, bd_v hb, s1, Option.bind_some, dd_1 h, Option.bind_some, u1, d2, nI_1, nI_rem10 _ (by omega), dd_p1 h, Option.bind_some, dd_2 h, Option.bind_some, up2_row, up1_ne _ _ (by decide), u1, d3, nI_1, show (10 : Int32) = nI 10 from rfl, mnI_nI (by omega) (by omega), dd_p2 h, Option.bind_some]
  · rw [keepU_len hU] at hi
    rw [up2_ne _ _ _ ddr.symm, up2_ne _ _ _ ddr.symm, hI1, up1_self]
    show (if 81 * nx ≤ 81 * (((nx + 1) % 10 + 9 - i) % 10) + j ∧ 81 * (((nx + 1) % 10 + 9 - i) % 10) + j < 81 * nx + 81 then I ca (0 + (81 * (((nx + 1) % 10 + 9 - i) % 10) + j - 81 * nx)) else I rw' (81 * (((nx + 1) % 10 + 9 - i) % 10) + j)) = _
    by_cases e : i = 0
    · subst e
      have en : ((nx + 1) % 10 + 9 - 0) % 10 = nx := by omega
      rw [en, if_pos ⟨by omega, by omega⟩, keepU_0, show 0 + (81 * nx + j - 81 * nx) = j by omega]
      exact hu j hj
    · obtain ⟨z, rfl⟩ : ∃ z, i = z + 1 := ⟨i - 1, by omega⟩
      have en : ((nx + 1) % 10 + 9 - (z + 1)) % 10 = (nx + 9 - z) % 10 := by omega
      have en2 : (nx + 9 - z) % 10 ≠ nx := by omega
      rw [en, if_neg (fun q => by omega), keepU_s (by omega)]
      exact d4 z (by omega) j hj
theorem fm_d10 : ∀ nx < 10, ∀ k ≤ 10, mm_fm (nI nx - nI k) 10 = nI ((nx + 10 - k) % 10) := by decide +kernel
theorem c_takeBack (hb : BdS S R b ca co) (h : DdS S R dd rw') {I : mkI} {U : List BB} (hU : U.length ≤ 10) (hD : DdR U I dd rw') {k : Nat} (hk1 : 1 ≤ k) (hk : k ≤ U.length) : ∃ I', F_X3_takeBack (some dd) (some b) (nI k) (mk S I L R n) = some (mk S I' L R n) ∧ DdR (U.drop k) I' dd rw' ∧ (∀ j, j < 81 → I' ca j = (U.getD (k - 1) bb0).2 j) ∧ ∀ a, a ≠ dd → a ≠ ca → I' a = I a := by
  obtain ⟨nx, d1, d2, d3, d4⟩ := hD
  have ddr : dd ≠ rw' := sh_ne h.1 h.2.2.2.1 (by decide)
  have ddc : ca ≠ dd := sh_ne hb.2.2.2.1 h.1 (by decide)
  have drc : ca ≠ rw' := sh_ne hb.2.2.2.1 h.2.2.2.1 (by decide)
  obtain ⟨I1, hI1⟩ : ∃ I1, I1 = up2 (up2 I dd 1 (nI ((nx + 10 - k) % 10))) dd 2 (nI (U.length - k)) := ⟨_, rfl⟩
  have s1 := c_takeFrom (L := L) (n := n) hb h I1 (q := (nx + 10 - k) % 10) (by omega)
  have ur : I1 rw' = I rw' := by rw [hI1, up2_ne _ _ _ ddr.symm, up2_ne _ _ _ ddr.symm]
  refine ⟨up1 I1 ca (va_cpy (I1 rw') (I1 ca) (81 * ((nx + 10 - k) % 10)) 0 81), ?_, ⟨(nx + 10 - k) % 10, by omega, ?_, ?_, fun i hi j hj => ?_⟩, fun j hj => ?_, fun a q1 q2 => ?_⟩
  rotate_left
  · rw [up1_ne _ _ ddc.symm, hI1, up2_row, up1_ne _ _ (by decide), up2_self]
  · rw [up1_ne _ _ ddc.symm, hI1, up2_self, List.length_drop]
  · rw [List.length_drop] at hi
    rw [up1_ne _ _ drc.symm, ur, List.getD_eq_getElem?_getD, List.getElem?_drop, ← List.getD_eq_getElem?_getD, show ((nx + 10 - k) % 10 + 9 - i) % 10 = (nx + 9 - (k + i)) % 10 by omega]
    exact d4 (k + i) (by omega) j hj
  · rw [up1_self]
    show (if 0 ≤ j ∧ j < 0 + 81 then I1 rw' (81 * ((nx + 10 - k) % 10) + (j - 0)) else _) = _
    rw [if_pos ⟨by omega, by omega⟩, ur, Nat.sub_zero, show (nx + 10 - k) % 10 = (nx + 9 - (k - 1)) % 10 by omega]
    exact d4 (k - 1) (by omega) j hj
  · rw [up1_ne _ _ q2, hI1, up2_ne _ _ _ q1, up2_ne _ _ _ q1]
  · unfold F_X3_takeBack
    rw [dd_1 h, Option.bind_some, if_neg (by decide), d2, fm_d10 nx d1 k (by omega), dd_p1 h, Option.bind_some, dd_2 h, Option.bind_some, up2_row, up1_ne _ _ (by decide), d3, nI_sub hk, show (0 : Int32) = nI 0 from rfl, mxI_nI (by omega) (by omega), show max 0 (U.length - k) = U.length - k by omega, dd_p2 h, Option.bind_some, ← hI1, dd_0 h, Option.bind_some, dd_1 h, Option.bind_some, hI1, up2_row, up1_ne _ _ (by decide), up2_self, show (81 : Int32) = nI 81 from rfl, nI_mul9, Nat.mul_comm, bd_v hb, ← hI1, s1, Option.bind_some]
end CDe
