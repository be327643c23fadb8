/-! a plan made of a draft: its laws -/
theorem takeD {l : List Nat} {a b j : Nat} (hj : j < b - a) : ((l.drop a).take (b - a)).getD j 0 = l.getD (a + j) 0 := by
  simp [List.getD, hj]
section ALw
variable {S : mkS} {I : mkI} {L : mkL} {R : mkR} {z s : Nat}
theorem al_law {D : DR} {l : List Nat} {w : Nat} (hs : St S R) (hw : w < 3) (hD : DfC D l I) (hl : l.length ≤ 898) (hc : ∀ j, j < l.length → I 167 j = nI (l.getD j 0)) (h0 : ∀ a, z ≤ a → S a = (0, 0)) (h221 : 221 ≤ z) (hLW : LW S) (h1 : z + 3 ≤ mm_capC) (h2 : s + 934 ≤ mm_capS) : ∃ r S' I' L' R' z' s', F_X7_lawOf (some 163) (nI w) (mk S I L R (z, s)) = some (r, mk S' I' L' R' (z', s')) ∧ CLaw S' R' I' r (dL D w) ∧ Gr z S S' I I' L L' R R' ∧ (∀ a, z' ≤ a → S' a = (0, 0)) ∧ z ≤ z' ∧ z' ≤ z + 3 ∧ s' ≤ s + 934 ∧ LW S' ∧ (r = none ∨ r = some z) := by
  obtain ⟨a, b, p1, p2, p3, p4, p5⟩ := hD.2.2.2 w hw
  unfold F_X7_lawOf F_X7_lawOf_41
  rw [if_neg (nI_pos (by omega)), if_pos (show nI w < 3 from nI_lt (b := 3) hw (by omega)), gr_163_4 hs, Option.bind_some, show aI (mk S I L R (z, s)) (some 168) 0 (nI w) = _ from mk_aJ0 (S_168 hs) (by omega) (by decide), Option.bind_some, p1, gr_163_5 hs, Option.bind_some, show aI (mk S I L R (z, s)) (some 169) 0 (nI w) = _ from mk_aJ0 (S_169 hs) (by omega) (by decide), Option.bind_some, p2, if_neg (nI_pos (by omega))]
  by_cases e : b ≤ a
  · rw [if_pos (nI_le e (by omega))]
    refine ⟨none, S, I, L, R, z, s, rfl, .inl ⟨?_, rfl⟩, Gr.rf, h0, Nat.le_refl _, by omega, by omega, hLW, .inl rfl⟩
    rw [p5, show b - a = 0 by omega, List.take_zero]
  have ge : ¬ nI b ≤ nI a := nI_ge (by omega) (by omega)
  have hlen : (dL D w).length = b - a := by rw [p5, List.length_take, List.length_drop]; omega
  rw [if_neg ge, if_pos (show nI b ≤ 900 from nI_le (b := 900) (by omega) (by omega))]
  -- the Law
  obtain ⟨S1, hS1⟩ : ∃ S1, S1 = up1 S z (14, 0) := ⟨_, rfl⟩
  obtain ⟨I1, hI1⟩ : ∃ I1 : mkI, I1 = up1 I z (fun _ => 0) := ⟨_, rfl⟩
  obtain ⟨L1, hL1⟩ : ∃ L1 : mkL, L1 = up1 L z (fun _ => 0) := ⟨_, rfl⟩
  obtain ⟨R1, hR1⟩ : ∃ R1 : mkR, R1 = up1 R z (fun _ => none) := ⟨_, rfl⟩
  have eA : nO (mk S I L R (z, s)) 5 [.null, .null] 2 = some (some z, mk S1 I1 L1 R1 (z + 1, s + 2)) := by
    rw [hS1, hI1, hL1, hR1]; exact mk_hN (n := (z, s)) (14, 0) (fun _ => 0) (fun _ => 0) (fun _ => none) rfl (by show z + 1 ≤ _; omega) (by show s + 2 ≤ _; omega)
  have sA : ∀ a, a < z → S1 a = S a := fun a ha => by rw [hS1, up1_ne _ _ (by omega)]
  have rA : ∀ a, a < z → R1 a = R a := fun a ha => by rw [hR1, up1_ne _ _ (by omega)]
  have iA : ∀ a, a < z → I1 a = I a := fun a ha => by rw [hI1, up1_ne _ _ (by omega)]
  have hs1 : St S1 R1 := hs.gr9 (fun a ha => sA a (by omega)) (fun a ha _ _ => rA a (by omega))
  -- its code
  obtain ⟨S2, hS2⟩ : ∃ S2, S2 = up1 S1 (z + 1) (1, b - a) := ⟨_, rfl⟩
  obtain ⟨I2, hI2⟩ : ∃ I2 : mkI, I2 = up1 I1 (z + 1) (fun _ => 0) := ⟨_, rfl⟩
  obtain ⟨L2, hL2⟩ : ∃ L2 : mkL, L2 = up1 L1 (z + 1) (fun _ => 0) := ⟨_, rfl⟩
  obtain ⟨R2, hR2⟩ : ∃ R2 : mkR, R2 = up1 R1 (z + 1) (fun _ => none) := ⟨_, rfl⟩
  have eB : nI_ (mk S1 I1 L1 R1 (z + 1, s + 2)) 0 (nI (b - a)) = some (some (z + 1), mk S2 I2 L2 R2 (z + 1 + 1, s + 2 + (b - a))) := by
    rw [hS2, hI2, hL2, hR2]; exact nJ_z (by omega) (by omega) (by omega)
  have s167 : S2 167 = (1, 900) := by rw [hS2, up1_ne _ _ (by omega), sA _ (by omega)]; exact S_167 hs
  have sz1 : S2 (z + 1) = (1, b - a) := by rw [hS2, up1_self]
  obtain ⟨I3, hI3⟩ : ∃ I3 : mkI, I3 = up1 I2 (z + 1) (va_cpy (I2 167) (I2 (z + 1)) a 0 (b - a)) := ⟨_, rfl⟩
  have eC : cpI (mk S2 I2 L2 R2 (z + 1 + 1, s + 2 + (b - a))) (some 167) (nI a) (some (z + 1)) (0 : Int32) (nI (b - a)) = some (mk S2 I3 L2 R2 (z + 1 + 1, s + 2 + (b - a))) := by
    rw [hI3]; exact mk_cpI (sp := a) (dp := 0) (nn := b - a) s167 sz1 (by omega) (by omega) (by decide) (by omega) (by omega)
  have e10 : F_J7_copyOfRange_feecc_10 (some 167) (nI a) (nI b) (mk S1 I1 L1 R1 (z + 1, s + 2)) = some (some (z + 1), mk S2 I3 L2 R2 (z + 1 + 1, s + 2 + (b - a))) := by
    unfold F_J7_copyOfRange_feecc_10 F_J7_copyOfRangeInt_feecc F_J7_checkLength_df160
    rw [if_pos (nI_le p3 (by omega)), Option.bind_some, nI_sub p3, eB, b2_some, mk_aNt0 s167, Option.bind_some, nI_sub (by omega), mnI_nI (by omega) (by omega), Nat.min_eq_right (by omega), eC, Option.bind_some, b2_some]
  have eR : F_J7_copyOfRange_feecc (some 167) (nI a) (nI b) (mk S1 I1 L1 R1 (z + 1, s + 2)) = some (some (z + 1), mk S2 I3 L2 R2 (z + 1 + 1, s + 2 + (b - a))) := by
    unfold F_J7_copyOfRange_feecc
    rw [e10, mk_aNt0 (S_167 hs1), Option.bind_some, if_neg (show ¬ nI b = nI 900 from fun q => by have := (nI_eq (by omega) (by omega)).mp q; omega), ite_self]
  -- its stack
  obtain ⟨S3, hS3⟩ : ∃ S3, S3 = up1 S2 (z + 2) (1, 32) := ⟨_, rfl⟩
  obtain ⟨I4, hI4⟩ : ∃ I4 : mkI, I4 = up1 I3 (z + 2) (fun _ => 0) := ⟨_, rfl⟩
  obtain ⟨L3, hL3⟩ : ∃ L3 : mkL, L3 = up1 L2 (z + 2) (fun _ => 0) := ⟨_, rfl⟩
  obtain ⟨R3, hR3⟩ : ∃ R3 : mkR, R3 = up1 R2 (z + 2) (fun _ => none) := ⟨_, rfl⟩
  have eD : nI_ (mk S2 I3 L2 R2 (z + 1 + 1, s + 2 + (b - a))) 0 (32 : Int32) = some (some (z + 2), mk S3 I4 L3 R3 (z + 3, s + 2 + (b - a) + 32)) := by
    rw [hS3, hI4, hL3, hR3]; exact nJ_z (N := 32) (by decide) (by omega) (by omega)
  have sz : S3 z = (14, 0) := by rw [hS3, up1_ne _ _ (by omega), hS2, up1_ne _ _ (by omega), hS1, up1_self]
  have sz1' : S3 (z + 1) = (1, b - a) := by rw [hS3, up1_ne _ _ (by omega), sz1]
  have sz2 : S3 (z + 2) = (1, 32) := by rw [hS3, up1_self]
  obtain ⟨R4, hR4⟩ : ∃ R4 : mkR, R4 = up2 (up2 R3 z 1 (some (z + 2))) z 0 (some (z + 1)) := ⟨_, rfl⟩
  have eE : F_X5_init (some z) (some (z + 1)) (mk S2 I3 L2 R2 (z + 1 + 1, s + 2 + (b - a))) = some (mk S3 I4 L3 R4 (z + 3, s + 2 + (b - a) + 32)) := by
    unfold F_X5_init
    rw [Option.bind_some, eD, b2_some, mk_pR (c := 5) (by rw [sz]) rfl (by omega), Option.bind_some, mk_pR (c := 5) (by rw [sz]) rfl (by omega), Option.bind_some, ← hR4]
  have sD : ∀ a, a < z → S3 a = S a := fun a ha => by rw [hS3, up1_ne _ _ (by omega), hS2, up1_ne _ _ (by omega), sA a ha]
  refine ⟨some z, S3, I4, L3, R4, z + 3, s + 2 + (b - a) + 32, ?_, .inr ⟨?_, z, rfl, h221, ⟨sz, ?_, ?_, ?_, sz2, by omega, by omega, by omega⟩, fun j hj => ?_⟩, fun x hx => ⟨sD x hx, ?_, ?_, ?_⟩, fun x hx => ?_, by omega, by omega, by omega, fun x hx => ?_, .inr rfl⟩
  · rw [eA, b2_some, gr_163_3 hs1, Option.bind_some, eR, b2_some, Option.bind_some, eE, Option.bind_some]
  · intro q
    rw [q] at hlen
    have : (0 : Nat) = b - a := hlen
    omega
  · rw [hR4, up2_self]
  · rw [hR4, up2_row, up1_ne _ _ (by decide), up2_self]
  · rw [sz1', hlen]
  · rw [hlen] at hj
    rw [hI4, up1_ne _ _ (by omega), hI3, up1_self]
    have hcp : va_cpy (I2 167) (I2 (z + 1)) a 0 (b - a) j = I2 167 (a + j) := by
      unfold va_cpy
      simp [hj]
    rw [hcp, hI2, up1_ne _ _ (by omega), iA _ (by omega), p5, takeD hj]
    exact hc (a + j) (by omega)
  · rw [hI4, up1_ne _ _ (by omega), hI3, up1_ne _ _ (by omega), hI2, up1_ne _ _ (by omega), iA _ hx]
  · rw [hL3, up1_ne _ _ (by omega), hL2, up1_ne _ _ (by omega), hL1, up1_ne _ _ (by omega)]
  · rw [hR4, up2_ne _ _ _ (by omega), up2_ne _ _ _ (by omega), hR3, up1_ne _ _ (by omega), hR2, up1_ne _ _ (by omega), rA _ hx]
  · rw [hS3, up1_ne _ _ (by omega), hS2, up1_ne _ _ (by omega), hS1, up1_ne _ _ (by omega)]; exact h0 x (by omega)
  · by_cases e1 : x = z
    · rw [e1]; exact ⟨by rw [sz1'], sz2⟩
    · by_cases e2 : x < z
      · rw [sD x e2] at hx
        obtain ⟨l1, l2⟩ := hLW x hx
        have z1 : x + 1 < z := lt_sh h0 (fun e => by rw [e] at l1; exact absurd l1 (by decide))
        have z2 : x + 2 < z := lt_sh h0 (fun e => by rw [e] at l2; exact absurd l2 (by decide))
        rw [sD _ z1, sD _ z2]; exact ⟨l1, l2⟩
      · exfalso
        by_cases e3 : x = z + 1
        · rw [e3, sz1'] at hx; exact absurd (congrArg Prod.fst hx) (show (1 : Nat) ≠ 14 by decide)
        · by_cases e4 : x = z + 2
          · rw [e4, sz2] at hx; exact absurd (congrArg Prod.fst hx) (by decide)
          · rw [hS3, up1_ne _ _ e4, hS2, up1_ne _ _ e3, hS1, up1_ne _ _ e1, h0 x (by omega)] at hx
            exact absurd (congrArg Prod.fst hx) (by decide)
end ALw
