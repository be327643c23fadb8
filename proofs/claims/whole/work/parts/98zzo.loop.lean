/-! the law: its loop -/
theorem sub6_toInt {Ls : Nat} (h : Ls ≤ 3072) : (nI Ls - (6 : Int32)).toInt = (Ls : Int) - 6 := by
  rw [Int32.toInt_sub, nI_toInt (by omega), show (6 : Int32).toInt = 6 from rfl]
  exact Int.bmod_eq_of_le (by omega) (by omega)
theorem AllInv.le {Ls : Nat} {xs : Nat → Int32} {k : Nat} {S : mkS} {I : mkI} {L : mkL} {R : mkR} {n : Nat × Nat} (h : AllInv Ls xs (k + 1) S I L R n) : AllInv Ls xs k S I L R n := by
  obtain ⟨h1, tb, tn, fk, fp, w, tr, im, hC, hR, hG⟩ := h
  exact ⟨h1, tb, tn, fk, fp, w, tr, im, hC.le, hR, hG.le⟩
theorem law_loop {Ls : Nat} {xs : Nat → Int32} (hL : Ls ≤ 3072) : ∀ (r g j : Nat), j + r = 512 → r < g → CK (F_L_law_23 g) Ls xs (512 - j) (6 * j) := by
  intro r
  have out : ∀ (g i k : Nat), 0 < g → i ≤ 3072 → Ls < i + 6 → CK (F_L_law_23 g) Ls xs k i := fun g i k hg hi3 hi S I L R n hA => by
    obtain ⟨g, rfl⟩ : ∃ y, g = y + 1 := ⟨g - 1, by omega⟩
    refine ⟨mk S I L R n, ?_⟩
    simp only [F_L_law_23]
    rw [show aSN (mk S I L R n) (some 121) = some (nI Ls) from by unfold aSN; rw [if_pos rfl, mk_aNt7 hA.1.2.1], Option.bind_some, if_pos (by rw [Int32.lt_iff_toInt_lt, nI_toInt (by omega), sub6_toInt (by omega)]; omega), rZ_1]
    rfl
  induction r with
  | zero =>
    intro g j hj hg
    exact out g (6 * j) _ (by omega) (by omega) (by omega)
  | succ r ih =>
    intro g j hj hg
    by_cases hi : Ls < 6 * j + 6
    · exact out g (6 * j) _ (by omega) (by omega) hi
    obtain ⟨g, rfl⟩ : ∃ y, g = y + 1 := ⟨g - 1, by omega⟩
    intro S I L R n hA
    have hA : AllInv Ls xs (512 - (j + 1) + 1) S I L R n := by rw [show 512 - (j + 1) + 1 = 512 - j by omega]; exact hA
    have hK : CK (F_L_law_23 g) Ls xs (512 - (j + 1)) (6 * j + 6) := ih g (j + 1) (by omega) (by omega)
    have hi6 : 6 * j + 6 ≤ Ls := by omega
    simp only [F_L_law_23]
    rw [show aSN (mk S I L R n) (some 121) = some (nI Ls) from by unfold aSN; rw [if_pos rfl, mk_aNt7 hA.1.2.1], Option.bind_some, if_neg (by rw [Int32.lt_iff_toInt_lt, nI_toInt (by omega), sub6_toInt (by omega)]; omega), show aS (mk S I L R n) (some 121) (nI (6 * j)) = some (xs (6 * j)) from by unfold aS; rw [if_pos rfl, mk_aJ7 hA.1.2.1 (by omega) (by omega), hA.1.2.2.1 _ (by omega)], Option.bind_some]
    by_cases c0 : xs (6 * j) &&& (63 : Int32) = (0 : Int32)
    · rw [if_pos c0]; exact b_feed hL hK hi6 hA
    rw [if_neg c0]
    by_cases c1 : xs (6 * j) &&& (63 : Int32) = (1 : Int32)
    · rw [if_pos c1]; exact b_exchange hL (by omega) hK hi6 hA
    rw [if_neg c1]
    by_cases c2 : xs (6 * j) &&& (63 : Int32) = (2 : Int32)
    · rw [if_pos c2]; exact b_fault hL hK hi6 hA
    rw [if_neg c2]
    by_cases c3 : xs (6 * j) &&& (63 : Int32) = (3 : Int32)
    · rw [if_pos c3]; exact b_line hL hK hi6 hA
    rw [if_neg c3]
    by_cases c4 : xs (6 * j) &&& (63 : Int32) = (4 : Int32)
    · rw [if_pos c4]; exact b_cord hL hK hi6 hA
    rw [if_neg c4]
    by_cases c5 : xs (6 * j) &&& (63 : Int32) = (5 : Int32)
    · rw [if_pos c5]; exact b_call hL hK hi6 hA
    rw [if_neg c5]
    by_cases c6 : xs (6 * j) &&& (63 : Int32) = (6 : Int32)
    · rw [if_pos c6]; exact b_likes hL hK hi6 hA
    rw [if_neg c6]
    by_cases c7 : xs (6 * j) &&& (63 : Int32) = (7 : Int32)
    · rw [if_pos c7]; exact b_comesTo hL hK hi6 hA
    rw [if_neg c7]
    by_cases c8 : xs (6 * j) &&& (63 : Int32) = (8 : Int32)
    · rw [if_pos c8]; exact b_dial hL hK hi6 hA
    rw [if_neg c8]
    by_cases c9 : xs (6 * j) &&& (63 : Int32) = (9 : Int32)
    · rw [if_pos c9]; exact b_pull hL hK hi6 hA
    rw [if_neg c9]
    by_cases c10 : xs (6 * j) &&& (63 : Int32) = (10 : Int32)
    · rw [if_pos c10]; exact b_door hL hK hi6 hA
    rw [if_neg c10]
    by_cases c11 : xs (6 * j) &&& (63 : Int32) = (11 : Int32)
    · rw [if_pos c11]; exact b_minutes hL hK hi6 hA
    rw [if_neg c11]
    by_cases c12 : xs (6 * j) &&& (63 : Int32) = (12 : Int32)
    · rw [if_pos c12]; exact b_undo hL hK hi6 hA
    rw [if_neg c12]
    by_cases c13 : xs (6 * j) &&& (63 : Int32) = (13 : Int32)
    · rw [if_pos c13]; exact b_judge hL hK hi6 hA
    rw [if_neg c13]
    by_cases c14 : xs (6 * j) &&& (63 : Int32) = (14 : Int32)
    · rw [if_pos c14]; exact b_perform hL hK hi6 hA
    rw [if_neg c14]
    by_cases c15 : xs (6 * j) &&& (63 : Int32) = (15 : Int32)
    · rw [if_pos c15]; exact b_spring hL hK hi6 hA
    rw [if_neg c15]
    by_cases c16 : xs (6 * j) &&& (63 : Int32) = (16 : Int32)
    · rw [if_pos c16]; exact b_lost hL hK hi6 hA
    rw [if_neg c16]
    by_cases c17 : xs (6 * j) &&& (63 : Int32) = (17 : Int32)
    · rw [if_pos c17]; exact b_firstLost hL hK hi6 hA
    rw [if_neg c17]
    by_cases c18 : xs (6 * j) &&& (63 : Int32) = (18 : Int32)
    · rw [if_pos c18]; exact b_together hL hK hi6 hA
    rw [if_neg c18]
    by_cases c19 : xs (6 * j) &&& (63 : Int32) = (19 : Int32)
    · rw [if_pos c19]; exact b_weddings hL hK hi6 hA
    rw [if_neg c19]
    by_cases c20 : xs (6 * j) &&& (63 : Int32) = (20 : Int32)
    · rw [if_pos c20]; exact b_busiest hL hK hi6 hA
    rw [if_neg c20]
    by_cases c21 : xs (6 * j) &&& (63 : Int32) = (21 : Int32)
    · rw [if_pos c21]; exact b_hog hL hK hi6 hA
    rw [if_neg c21]
    by_cases c22 : xs (6 * j) &&& (63 : Int32) = (22 : Int32)
    · rw [if_pos c22]; exact b_best hL hK hi6 hA
    rw [if_neg c22]
    by_cases c23 : xs (6 * j) &&& (63 : Int32) = (23 : Int32)
    · rw [if_pos c23]; exact b_bestBy hL hK hi6 hA
    rw [if_neg c23]
    by_cases c24 : xs (6 * j) &&& (63 : Int32) = (24 : Int32)
    · rw [if_pos c24]; exact b_enough hL hK hi6 hA
    rw [if_neg c24]
    by_cases c25 : xs (6 * j) &&& (63 : Int32) = (25 : Int32)
    · rw [if_pos c25]; exact b_atOnce hL hK hi6 hA
    rw [if_neg c25]
    by_cases c26 : xs (6 * j) &&& (63 : Int32) = (26 : Int32)
    · rw [if_pos c26]; exact b_crossed hL hK hi6 hA
    rw [if_neg c26]
    by_cases c27 : xs (6 * j) &&& (63 : Int32) = (27 : Int32)
    · rw [if_pos c27]; exact b_crossings hL hK hi6 hA
    rw [if_neg c27]
    by_cases c28 : xs (6 * j) &&& (63 : Int32) = (28 : Int32)
    · rw [if_pos c28]; exact b_stable hL hK hi6 hA
    rw [if_neg c28]
    by_cases c29 : xs (6 * j) &&& (63 : Int32) = (29 : Int32)
    · rw [if_pos c29]; exact b_partner hL hK hi6 hA
    rw [if_neg c29]
    by_cases c30 : xs (6 * j) &&& (63 : Int32) = (30 : Int32)
    · rw [if_pos c30]; exact b_leave hL hK hi6 hA
    rw [if_neg c30]
    by_cases c31 : xs (6 * j) &&& (63 : Int32) = (31 : Int32)
    · rw [if_pos c31]; exact b_darlings hL hK hi6 hA
    rw [if_neg c31]
    by_cases c32 : xs (6 * j) &&& (63 : Int32) = (32 : Int32)
    · rw [if_pos c32]; exact b_happiest hL hK hi6 hA
    rw [if_neg c32]
    by_cases c33 : xs (6 * j) &&& (63 : Int32) = (33 : Int32)
    · rw [if_pos c33]; exact b_loss hL hK hi6 hA
    rw [if_neg c33]
    by_cases c34 : xs (6 * j) &&& (63 : Int32) = (34 : Int32)
    · rw [if_pos c34]; exact b_fewest hL hK hi6 hA
    rw [if_neg c34]
    by_cases c35 : xs (6 * j) &&& (63 : Int32) = (35 : Int32)
    · rw [if_pos c35]; exact b_rules hL hK hi6 hA
    rw [if_neg c35]
    by_cases c36 : xs (6 * j) &&& (63 : Int32) = (36 : Int32)
    · rw [if_pos c36]; exact b_rule hL hK hi6 hA
    rw [if_neg c36]
    by_cases c37 : xs (6 * j) &&& (63 : Int32) = (37 : Int32)
    · rw [if_pos c37]; exact b_ask hL hK hi6 hA
    rw [if_neg c37]
    by_cases c38 : xs (6 * j) &&& (63 : Int32) = (38 : Int32)
    · rw [if_pos c38]; exact b_tray hL hK hi6 hA
    rw [if_neg c38]
    by_cases c39 : xs (6 * j) &&& (63 : Int32) = (39 : Int32)
    · rw [if_pos c39]; exact b_write hL hK hi6 hA
    rw [if_neg c39]
    by_cases c40 : xs (6 * j) &&& (63 : Int32) = (40 : Int32)
    · rw [if_pos c40]; exact b_copy hL hK hi6 hA
    rw [if_neg c40]
    by_cases c41 : xs (6 * j) &&& (63 : Int32) = (41 : Int32)
    · rw [if_pos c41]; exact b_image hL hK hi6 hA
    rw [if_neg c41]
    by_cases c42 : xs (6 * j) &&& (63 : Int32) = (42 : Int32)
    · rw [if_pos c42]; exact b_restore hL hK hi6 hA
    rw [if_neg c42]
    by_cases c43 : xs (6 * j) &&& (63 : Int32) = (43 : Int32)
    · rw [if_pos c43]; exact b_count hL hK hi6 hA
    rw [if_neg c43]
    obtain ⟨hz, hq⟩ := hK S I L R n hA.le
    refine ⟨hz, ?_⟩
    unfold F_L_law_2603
    rw [show nI (6 * j) + (6 : Int32) = nI (6 * j + 6) from nI_add _ 6]
    exact hq
