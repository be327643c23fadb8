/-! the class's tokens -/
/-- the bytes, and the token at hand -/
def TpC (tb : Nat → Nat) (N : Nat) (I : mkI) : Prop := N ≤ 900 ∧ I 164 1 = nI N ∧ ∀ j, j < N → tb j < 256 ∧ I 129 j = sb (tb j)
def TkC (tb : Nat → Nat) (t : TKN) (I : mkI) : Prop := I 164 2 = nI t.2.1 ∧ I 164 3 = nI t.1 ∧ I 164 4 = nI t.2.2 ∧ (t.2.2 ≠ 0 → I 164 5 = sb (tb t.1))
def kT (I I' : mkI) : Prop := (∀ x, x ≠ 164 → I' x = I x) ∧ I' 164 1 = I 164 1
theorem kT.rf {I : mkI} : kT I I := ⟨fun _ _ => rfl, rfl⟩
theorem kT.tr {I I' I'' : mkI} (h : kT I I') (h2 : kT I' I'') : kT I I'' := ⟨fun x a => (h2.1 x a).trans (h.1 x a), h2.2.trans h.2⟩
theorem kT.up {I : mkI} {j : Nat} {v : Int32} (hj : j ≠ 1) : kT I (up2 I 164 j v) := ⟨fun x a => up2_ne _ _ _ a, by rw [up2_row, up1_ne _ _ (fun e => hj e.symm)]⟩
theorem kT.tp {tb : Nat → Nat} {N : Nat} {I I' : mkI} (k : kT I I') (h : TpC tb N I) : TpC tb N I' := by
  unfold TpC
  rw [k.2, k.1 _ (by decide)]; exact h
section LX
variable {Ls : Nat} {xs : Nat → Int32} {S : mkS} {L : mkL} {R : mkR} {n : Nat × Nat} {tb : Nat → Nat} {N : Nat}
theorem ab_129 (hs : St S R) (hN : N ≤ 900) {I : mkI} (h : TpC tb N I) {j : Nat} (hj : j < N) : aI (mk S I L R n) (some 129) 2 (nI j) = some (sb (tb j)) := by
  rw [ai_129 hs (by have := h.1; omega), (h.2.2 j hj).2]
theorem c_skipR (hs : St S R) {lo hi : Int32} {p : Nat → Bool} (hp : ∀ b, b < 256 → (p b = true ↔ ¬ sb b < lo ∧ ¬ hi < sb b)) : ∀ (r g q : Nat) (I : mkI), q + r = N → r < g → TpC tb N I → I 164 2 = nI q → ∃ I', F_X9_skipRun_0 g (some 164) lo hi (mk S I L R n) = some (mk S I' L R n) ∧ I' 164 2 = nI (rn p tb r q) ∧ kT I I' ∧ ∀ j, j ≠ 2 → I' 164 j = I 164 j := by
  intro r
  induction r with
  | zero =>
    intro g q I hq hg hT h2
    obtain ⟨g, rfl⟩ : ∃ y, g = y + 1 := ⟨g - 1, by omega⟩
    have := hT.1
    refine ⟨I, ?_, h2, kT.rf, fun _ _ => rfl⟩
    simp only [F_X9_skipRun_0, F_X9_skipRun_50]
    rw [gi_164_2 hs, Option.bind_some, gi_164_1 hs, Option.bind_some, h2, hT.2.1, if_pos (nI_le (by omega) (by omega))]
  | succ r ih =>
    intro g q I hq hg hT h2
    obtain ⟨g, rfl⟩ : ∃ y, g = y + 1 := ⟨g - 1, by omega⟩
    have hN := hT.1
    have hb := hp (tb q) (hT.2.2 q (by omega)).1
    rw [rn]
    have rd := ab_129 (L := L) (n := n) hs hN hT (show q < N by omega)
    simp only [F_X9_skipRun_0, F_X9_skipRun_50]
    rw [gi_164_2 hs, Option.bind_some, gi_164_1 hs, Option.bind_some, h2, hT.2.1, if_neg (nI_ge (by omega) (by omega)), gr_164_0 hs, Option.bind_some, Option.bind_some, rd, Option.bind_some]
    by_cases e1 : sb (tb q) < lo
    · rw [if_pos e1, if_neg (fun z => (hb.mp z).1 e1)]
      exact ⟨I, rfl, h2, kT.rf, fun _ _ => rfl⟩
    · rw [if_neg e1, Option.bind_some, Option.bind_some, rd, Option.bind_some]
      by_cases e2 : hi < sb (tb q)
      · rw [if_pos e2, if_neg (fun z => (hb.mp z).2 e2)]
        exact ⟨I, rfl, h2, kT.rf, fun _ _ => rfl⟩
      · rw [if_neg e2, if_pos (hb.mpr ⟨e1, e2⟩), Option.bind_some, nI_1, pi_164_2 hs, Option.bind_some]
        obtain ⟨I', q1, q2, q3, q4⟩ := ih g (q + 1) (up2 I 164 2 (nI (q + 1))) (by omega) (by omega) ((kT.up (by decide)).tp hT) (up2_self _ _ _ _)
        exact ⟨I', q1, q2, (kT.up (by decide)).tr q3, fun j hj => by rw [q4 j hj, up2_row, up1_ne _ _ hj]⟩
theorem sg_fnd : ∀ b < 128, (fnd (fun j => decide (sgL.getD j 0 = b)) 12 0 < 0 ↔ isSg b = false) ∧ ((nI b).toUInt32 % 65536).toInt32 = nI b ∧ (nI b).toInt8.toInt32 = nI b := by decide +kernel
theorem sg_byt : ∀ j < 12, (mm_byt 2).getD j 0 = nI (sgL.getD j 0) ∧ sgL.getD j 0 < 128 := by decide +kernel
theorem j_idxL {I : mkI} (hl : Low Ls xs S I R) {b : Nat} (hb : b < 128) : ∀ (r g j : Nat), j + r = 12 → r < g → F_J1_indexOfChar_4cfef_7 g (some 66) (nI 12) (nI b) (nI j) (mk S I L R n) = some (fnd (fun j => decide (sgL.getD j 0 = b)) r j, mk S I L R n) := by
  obtain ⟨s1, s2, s3, s4, s5⟩ := hl.1 2 (by decide)
  intro r
  induction r with
  | zero =>
    intro g j hj hg
    obtain ⟨g, rfl⟩ : ∃ y, g = y + 1 := ⟨g - 1, by omega⟩
    simp only [F_J1_indexOfChar_4cfef_7]
    rw [if_pos (nI_le (by omega) (by omega))]
    rfl
  | succ r ih =>
    intro g j hj hg
    obtain ⟨g, rfl⟩ : ∃ y, g = y + 1 := ⟨g - 1, by omega⟩
    obtain ⟨b1, b2⟩ := sg_byt j (by omega)
    have s4' : S 66 = (3, 12) := s4
    have e5 : I 66 j = nI (sgL.getD j 0) := (s5 j (by show j < 12; omega)).trans b1
    simp only [F_J1_indexOfChar_4cfef_7, fnd]
    rw [if_neg (nI_ge (by omega) (by omega)), mk_aI2 s4' (nI_pos (by omega)) (by rw [nI_clamp (by omega)]; omega), Option.bind_some, nI_clamp (by omega), e5, nI_1, ih g (j + 1) (by omega) (by omega)]
    by_cases e : sgL.getD j 0 = b
    · rw [if_pos (by rw [e]), if_pos (decide_eq_true e)]
    · rw [if_neg (fun z => e ((nI_eq (by omega) (by omega)).mp z)), if_neg (by rw [decide_eq_false e]; exact Bool.false_ne_true)]
theorem j_idx {I : mkI} (hl : Low Ls xs S I R) {b : Nat} (hb : b < 128) : ∃ v, F_J0_indexOf_0f7a4 (some 2) ((nI b).toUInt32 % 65536).toInt32 (mk S I L R n) = some (v, mk S I L R n) ∧ (v < 0 ↔ isSg b = false) := by
  obtain ⟨s1, s2, s3, s4, s5⟩ := hl.1 2 (by decide)
  obtain ⟨f1, f2, f3⟩ := sg_fnd b hb
  have s4' : S 66 = (3, 12) := s4
  refine ⟨_, ?_, f1⟩
  unfold F_J0_indexOf_0f7a4 F_J0_indexOf_7cf53 F_J0_indexOf_7cf53_36 F_J1_indexOf_4cfef F_J1_canEncode_9a6ad F_J1_canEncode_9a6ad_16 F_J1_indexOfChar_4cfef
  have hL := j_idxL (L := L) (n := n) hl hb 12 mm_N 0 (by omega) (by show 12 < 1000000; omega)
  have hlen := j_len (L := L) (n := n) hl (a := 2) (by decide)
  rw [f2, mk_cV (c := 13) (by rw [s1]), mk_cV (c := 13) (by rw [s1]), j_lat hl (by decide), b2_some, if_neg (by decide), mk_gR (c := 13) (k := 0) (by rw [s1]) rfl, Option.bind_some, s2, mk_cV (c := 13) (by rw [s1]), hlen, b2_some, if_neg (nI_pos (by omega)), if_neg (show ¬ (255 : Int32) < nI b from nI_nlt (a := 255) (by omega) (by omega)), rZ_1, b2_some, if_neg (by decide), mk_aNt2 s4', Option.bind_some, f3]
  rw [show mnI (nI (mm_byt 2).length) (nI 12) = nI 12 by decide, show mxI (0 : Int32) 0 = nI 0 by decide, if_pos (show nI 0 < nI 12 by decide)]
  rw [show F_J1_indexOfChar_4cfef_7 mm_N (some (64 + 2)) (nI 12) (nI b) (nI 0) (mk S I L R n) = _ from hL, b2_some, b2_some, b2_some]
theorem c_advAt (hs : St S R) {I : mkI} (hl : Low Ls xs S I R) (hT : TpC tb N I) {s : Nat} (hsN : s ≤ N) (h2 : I 164 2 = nI s) : ∃ I', F_X9_advance_52 (some 164) (mk S I L R n) = some (mk S I' L R n) ∧ TkC tb (lxAt tb N s) I' ∧ kT I I' := by
  have hN := hT.1
  obtain ⟨I1, hI1⟩ : ∃ I1, I1 = up2 I 164 3 (nI s) := ⟨_, rfl⟩
  have k1 : kT I I1 := by rw [hI1]; exact kT.up (by decide)
  have hT1 := k1.tp hT
  have a12 : I1 164 2 = nI s := by rw [hI1, up2_row, up1_ne _ _ (by decide)]; exact h2
  have a13 : I1 164 3 = nI s := by rw [hI1, up2_self]
  unfold F_X9_advance_52
  rw [gi_164_2 hs, Option.bind_some, h2, pi_164_3 hs, Option.bind_some, ← hI1, gi_164_3 hs, Option.bind_some, a13, gi_164_1 hs, Option.bind_some, hT1.2.1]
  unfold lxAt
  by_cases e : N ≤ s
  · rw [if_neg (nI_nlt (by omega) (by omega)), pi_164_4 hs, Option.bind_some, if_pos e]
    refine ⟨_, rfl, ⟨by rw [up2_row, up1_ne _ _ (by decide)]; exact a12, by rw [up2_row, up1_ne _ _ (by decide)]; exact a13, by rw [up2_self]; rfl, fun h => absurd rfl h⟩, k1.tr (kT.up (by decide))⟩
  · have hb := hT.2.2 s (by omega)
    obtain ⟨y1, y2, y3, y4, y5, y6, y7, y8⟩ := sb_all (tb s) hb.1
    obtain ⟨I2, hI2⟩ : ∃ I2, I2 = up2 I1 164 5 (sb (tb s)) := ⟨_, rfl⟩
    have k2 : kT I I2 := k1.tr (by rw [hI2]; exact kT.up (by decide))
    have hT2 := k2.tp hT
    have b2 : I2 164 2 = nI s := by rw [hI2, up2_row, up1_ne _ _ (by decide)]; exact a12
    have b3 : I2 164 3 = nI s := by rw [hI2, up2_row, up1_ne _ _ (by decide)]; exact a13
    have b5 : I2 164 5 = sb (tb s) := by rw [hI2, up2_self]
    rw [if_pos (nI_lt (by omega) (by omega)), gr_164_0 hs, Option.bind_some, Option.bind_some, ab_129 (L := L) (n := n) hs hT1.1 hT1 (show s < N by omega), Option.bind_some, pi_164_5 hs, Option.bind_some, ← hI2, if_neg e]
    have run : ∀ {lo hi : Int32} {p : Nat → Bool}, (∀ b, b < 256 → (p b = true ↔ ¬ sb b < lo ∧ ¬ hi < sb b)) → ∃ I', F_X9_skipRun (some 164) lo hi (mk S I2 L R n) = some (mk S I' L R n) ∧ I' 164 2 = nI (rn p tb (N - s) s) ∧ kT I2 I' ∧ ∀ j, j ≠ 2 → I' 164 j = I2 164 j := fun hp => c_skipR (L := L) (n := n) hs hp (N - s) mm_N s I2 (by omega) (by show N - s < 1000000; omega) hT2 b2
    by_cases e1 : isLt (tb s) = true
    · obtain ⟨I3, r1, r2, r3, r4⟩ := run (lo := 97) (hi := 122) (p := isLt) (fun b hb => (sb_all b hb).2.2.1)
      rw [if_pos e1, gi_164_5 hs, Option.bind_some, b5, if_neg (y3.mp e1).1, Option.bind_some, if_neg (y3.mp e1).2, cv_164 hs, r1, Option.bind_some, pi_164_4 hs, Option.bind_some]
      exact ⟨_, rfl, ⟨by rw [up2_row, up1_ne _ _ (by decide)]; exact r2, by rw [up2_row, up1_ne _ _ (by decide), r4 _ (by decide)]; exact b3, by rw [up2_self]; rfl, fun _ => by rw [up2_row, up1_ne _ _ (by decide), r4 _ (by decide)]; exact b5⟩, (k2.tr r3).tr (kT.up (by decide))⟩
    · have f124 : ∀ X : Option MH, (if sb (tb s) < 97 then F_X9_advance_124 (some 164) (mk S I2 L R n) else if (122 : Int32) < sb (tb s) then F_X9_advance_124 (some 164) (mk S I2 L R n) else X) = F_X9_advance_124 (some 164) (mk S I2 L R n) := fun X => by
        by_cases z1 : sb (tb s) < 97
        · rw [if_pos z1]
        · rw [if_neg z1, if_pos (Classical.not_not.mp (fun z => e1 (y3.mpr ⟨z1, z⟩)))]
      rw [if_neg e1, gi_164_5 hs, Option.bind_some, b5, Option.bind_some, f124]
      unfold F_X9_advance_124
      rw [gi_164_5 hs, Option.bind_some, b5, Option.bind_some]
      by_cases e2 : isDg (tb s) = true
      · obtain ⟨I3, r1, r2, r3, r4⟩ := run (lo := 48) (hi := 57) (p := isDg) (fun b hb => (sb_all b hb).2.2.2.1)
        have hr := rn_b (p := isDg) (tb := tb) (N - s) s
        rw [if_pos e2, if_neg (y4.mp e2).1, if_neg (y4.mp e2).2, cv_164 hs, r1, Option.bind_some, gi_164_2 hs, Option.bind_some, gi_164_3 hs, Option.bind_some, r2, r4 _ (by decide), b3, nI_sub hr.1]
        unfold F_X9_advance_169 F_X9_advance_216
        have fin : ∀ κ : Nat, κ = (if 3 < rn isDg tb (N - s) s - s then 1 else 3) → ∃ I', ((pI (mk S I3 L R n) (some 164) 9 4 (nI κ)).bind fun h169 => some h169) = some (mk S I' L R n) ∧ TkC tb (s, rn isDg tb (N - s) s, if 3 < rn isDg tb (N - s) s - s then 1 else 3) I' ∧ kT I I' := fun κ hκ => by
          rw [pi_164_4 hs, Option.bind_some, ← hκ]
          exact ⟨_, rfl, ⟨by rw [up2_row, up1_ne _ _ (by decide)]; exact r2, by rw [up2_row, up1_ne _ _ (by decide), r4 _ (by decide)]; exact b3, by rw [up2_self], fun _ => by rw [up2_row, up1_ne _ _ (by decide), r4 _ (by decide)]; exact b5⟩, (k2.tr r3).tr (kT.up (by decide))⟩
        by_cases e3 : 3 < rn isDg tb (N - s) s - s
        · rw [if_neg (show ¬ nI (rn isDg tb (N - s) s - s) ≤ 3 from nI_ge (a := 3) (b := rn isDg tb (N - s) s - s) (by omega) (by omega))]
          exact fin 1 (if_pos e3).symm
        · rw [if_pos (show nI (rn isDg tb (N - s) s - s) ≤ 3 from nI_le (b := 3) (by omega) (by omega))]
          exact fin 3 (if_neg e3).symm
      · have f175 : ∀ X : Option MH, (if sb (tb s) < 48 then F_X9_advance_175 (some 164) (mk S I2 L R n) else if (57 : Int32) < sb (tb s) then F_X9_advance_175 (some 164) (mk S I2 L R n) else X) = F_X9_advance_175 (some 164) (mk S I2 L R n) := fun X => by
          by_cases z1 : sb (tb s) < 48
          · rw [if_pos z1]
          · rw [if_neg z1, if_pos (Classical.not_not.mp (fun z => e2 (y4.mpr ⟨z1, z⟩)))]
        rw [if_neg e2, f175]
        obtain ⟨I3, hI3⟩ : ∃ I3, I3 = up2 I2 164 2 (nI (s + 1)) := ⟨_, rfl⟩
        have k3 : kT I I3 := k2.tr (by rw [hI3]; exact kT.up (by decide))
        have c2 : I3 164 2 = nI (s + 1) := by rw [hI3, up2_self]
        have c3 : I3 164 3 = nI s := by rw [hI3, up2_row, up1_ne _ _ (by decide)]; exact b3
        have c5 : I3 164 5 = sb (tb s) := by rw [hI3, up2_row, up1_ne _ _ (by decide)]; exact b5
        have hl3 : Low Ls xs S I3 R := hl.fr (fun _ _ => rfl) (fun a ha => k3.1 a (by show a ≠ 164; omega)) (fun _ _ => rfl)
        have fin : ∀ κ : Nat, κ = (if isSg (tb s) = true then 4 else 1) → ∃ I', F_X9_advance_213 (nI κ) (some 164) (mk S I3 L R n) = some (mk S I' L R n) ∧ TkC tb (s, s + 1, if isSg (tb s) = true then 4 else 1) I' ∧ kT I I' := fun κ hκ => by
          unfold F_X9_advance_213 F_X9_advance_216
          rw [pi_164_4 hs, Option.bind_some, ← hκ]
          exact ⟨_, rfl, ⟨by rw [up2_row, up1_ne _ _ (by decide)]; exact c2, by rw [up2_row, up1_ne _ _ (by decide)]; exact c3, by rw [up2_self], fun _ => by rw [up2_row, up1_ne _ _ (by decide)]; exact c5⟩, k3.tr (kT.up (by decide))⟩
        unfold F_X9_advance_175 F_X9_advance_212
        rw [gi_164_2 hs, Option.bind_some, b2, nI_1, pi_164_2 hs, Option.bind_some, ← hI3, gi_164_5 hs, Option.bind_some, c5]
        by_cases e3 : sb (tb s) ≤ 32
        · rw [if_pos e3]
          exact fin 1 (by rw [y5 e3]; rfl)
        · obtain ⟨z1, z2⟩ := y6 e3
          obtain ⟨v, v1, v2⟩ := j_idx (L := L) (n := n) hl3 z2
          rw [if_neg e3, Option.bind_some, mk_cV (c := 13) (by rw [(hl3.1 2 (by decide)).1]), z1, v1, b2_some]
          by_cases e4 : v < 0
          · rw [if_pos e4]
            exact fin 1 (by rw [v2.mp e4]; rfl)
          · rw [if_neg e4]
            have : isSg (tb s) = true := by
              cases hh : isSg (tb s) with
              | true => rfl
              | false => exact absurd (v2.mpr hh) e4
            exact fin 4 (by rw [this]; rfl)
theorem c_advance (hs : St S R) {I : mkI} (hl : Low Ls xs S I R) (hT : TpC tb N I) {q : Nat} (hq : q ≤ N) (h2 : I 164 2 = nI q) : ∃ I', F_X9_advance (some 164) (mk S I L R n) = some (mk S I' L R n) ∧ TkC tb (lx tb N q) I' ∧ kT I I' := by
  have key : ∀ (r g q : Nat) (I : mkI), Low Ls xs S I R → q + r = N → r < g → TpC tb N I → I 164 2 = nI q → ∃ I', F_X9_advance_0 g (some 164) (mk S I L R n) = some (mk S I' L R n) ∧ TkC tb (lxAt tb N (rn isSp tb r q)) I' ∧ kT I I' := by
    intro r
    induction r with
    | zero =>
      intro g q I hl hq hg hT h2
      obtain ⟨g, rfl⟩ : ∃ y, g = y + 1 := ⟨g - 1, by omega⟩
      have := hT.1
      simp only [F_X9_advance_0]
      rw [gi_164_2 hs, Option.bind_some, gi_164_1 hs, Option.bind_some, h2, hT.2.1, if_pos (nI_le (by omega) (by omega))]
      exact c_advAt (s := q) hs hl hT (by omega) h2
    | succ r ih =>
      intro g q I hl hq hg hT h2
      obtain ⟨g, rfl⟩ : ∃ y, g = y + 1 := ⟨g - 1, by omega⟩
      have hN := hT.1
      obtain ⟨y1, y2, -⟩ := sb_all (tb q) (hT.2.2 q (by omega)).1
      have rd := ab_129 (L := L) (n := n) hs hT.1 hT (show q < N by omega)
      have next : isSp (tb q) = true → ∃ I', F_X9_advance_39 (F_X9_advance_0 g) (some 164) (mk S I L R n) = some (mk S I' L R n) ∧ TkC tb (lxAt tb N (rn isSp tb (r + 1) q)) I' ∧ kT I I' := fun h => by
        unfold F_X9_advance_39
        rw [gi_164_2 hs, Option.bind_some, h2, nI_1, pi_164_2 hs, Option.bind_some, rn, if_pos h]
        obtain ⟨I', q1, q2, q3⟩ := ih g (q + 1) (up2 I 164 2 (nI (q + 1))) (hl.fr (fun _ _ => rfl) (fun a ha => up2_ne _ _ _ (by show a ≠ 164; omega)) (fun _ _ => rfl)) (by omega) (by omega) ((kT.up (by decide)).tp hT) (up2_self _ _ _ _)
        exact ⟨I', q1, q2, (kT.up (by decide)).tr q3⟩
      simp only [F_X9_advance_0]
      rw [gi_164_2 hs, Option.bind_some, gi_164_1 hs, Option.bind_some, h2, hT.2.1, if_neg (nI_ge (by omega) (by omega)), gr_164_0 hs, Option.bind_some, Option.bind_some, rd, Option.bind_some]
      by_cases e1 : tb q = 10
      · rw [if_pos (y1.mpr e1)]
        exact next (decide_eq_true (.inl e1))
      · rw [if_neg (fun z => e1 (y1.mp z)), Option.bind_some, Option.bind_some, rd, Option.bind_some]
        by_cases e2 : tb q = 32
        · rw [if_pos (y2.mpr e2)]
          exact next (decide_eq_true (.inr e2))
        · rw [if_neg (fun z => e2 (y2.mp z)), rn, if_neg (by unfold isSp; rw [decide_eq_false (fun z => z.elim e1 e2)]; exact Bool.false_ne_true)]
          exact c_advAt hs hl hT (by omega) h2
  exact key (N - q) mm_N q I hl (by omega) (by have := hT.1; show N - q < 1000000; omega) hT h2
end LX
