/-! told deeds: judged, done, on both sides -/
abbrev GS : Type := BB × (Nat → Nat) × Nat
def tn9 (v : Int64) : Nat := v.toInt.toNat
def aWhy (W C : Nat) (f : Nat → Int32) (v : Int64) : Int32 := if v.toInt = -1 then 0 else if 0 ≤ v.toInt ∧ v.toInt < 300 then (if tn9 v < 100 then aRing W C (nI (tn9 v / 10)) (nI (tn9 v % 10)) 5 else if tn9 v < 200 then (if isL W (nI (tn9 v - 100)) = true then 0 else 1) else aPull C f (nI (tn9 v - 200))) else 1
def aDo (P : PL) (s : GS) (v : Int64) : GS := if v.toInt = -1 then ((s.1.1, fin_ s.1.1 (s.2.2 + 1) (gRun P frc0 s.1.1 (evU s.1.2 s.2.1 s.1.1 s.2.2 1) s.1.2)), s.2.1, s.2.2 + 1) else if tn9 v < 100 then ((s.1.1 + 1, aAdd s.1.1 s.1.2 (nI (tn9 v / 10)) (nI (tn9 v % 10)) (nI s.2.2) (nI 5)), up1 s.2.1 s.1.1 s.2.2, s.2.2) else if tn9 v < 200 then ((s.1.1, up1 s.1.2 2 (s.1.2 2 ^^^ ((1 : Int32) <<< (nI (tn9 v - 100) &&& 31)))), s.2) else ((s.1.1, up1 s.1.2 (15 + 7 * (tn9 v - 200)) 2), s.2)
def GI (P : PL) (s : GS) : Prop := ∃ F T D, BI P s.1.1 s.1.2 F T s.2.1 D s.2.2
theorem v_t {v : Int64} (h : 0 ≤ v.toInt ∧ v.toInt < 300) : v = (nI (tn9 v)).toInt64 ∧ tn9 v < 300 := by
  unfold tn9
  refine ⟨Int64.toInt_inj.mp ?_, by omega⟩
  rw [Int32.toInt_toInt64, nI_toInt (by omega)]; omega
theorem v_m {v : Int64} : (v.toInt = -1) ↔ v = -1 := by
  rw [← Int64.toInt_inj, show (-1 : Int64).toInt = -1 by decide]
theorem lgm (v : Int64) : (lg_cmp v (-1) = 0) = (v.toInt = -1) := by rw [lgc0]; exact propext v_m.symm
theorem aRing_0 {W C : Nat} (hW : W ≤ 8) {l m t : Int32} (h : aRing W C l m t = 0) : C < 10 ∧ ∃ a b z, a < W ∧ b < W ∧ a ≠ b ∧ 1 ≤ z ∧ z ≤ 99 ∧ l = nI a ∧ m = nI b ∧ t = nI z := by
  unfold aRing at h
  by_cases q : aOkL W l m t = true
  · rw [if_pos q] at h
    by_cases q2 : C < 10
    · exact ⟨q2, aOkL_iff hW q⟩
    · rw [if_neg q2] at h; exact absurd h (by decide)
  · rw [if_neg q] at h; exact absurd h (by decide)
section TD
variable {S : mkS} {L : mkL} {R : mkR} {n : Nat × Nat} {b ca co o lf cf lg cg p : Nat} {P : PL}
theorem c_whyTold (hP : PlOK P) (hb : BdS S R b ca co) (hpl : R b 2 = some p) {I : mkI} (hp : CPlan P S R I p) {C : Nat} (hC : C ≤ 10) (h1 : I ca 1 = nI C) (v : Int64) : F_X0_whyNotTold (some b) v (mk S I L R n) = some (aWhy (pW P) C (I ca) v, mk S I L R n) := by
  unfold F_X0_whyNotTold F_X0_whyNotTold_24 F_X0_whyNotTold_72 aWhy
  simp only [lgm, lgc, show (0 : Int64).toInt = 0 by decide, show (300 : Int64).toInt = 300 by decide]
  by_cases e1 : v.toInt = -1
  · rw [if_pos e1, if_pos e1]
  · rw [if_neg e1, if_neg e1]
    by_cases e2 : v.toInt < 0
    · rw [if_pos e2, if_neg (by omega)]
    · rw [if_neg e2]
      by_cases e3 : v.toInt < 300
      · obtain ⟨t1, t2⟩ := v_t ⟨by omega, e3⟩
        have t32 : v.toInt32 = nI (tn9 v) := by rw [t1, Int32.toInt32_toInt64]; rw [← t1]
        rw [if_pos e3, if_pos (show 0 ≤ v.toInt ∧ v.toInt < 300 from ⟨by omega, e3⟩), t32]
        by_cases e4 : tn9 v < 100
        · rw [if_neg (show ¬ (100 : Int32) ≤ nI (tn9 v) from ge_li 100 e4 (by decide)), if_pos e4, nI_rem10 _ (by omega), show nI (tn9 v) / 10 = nI (tn9 v / 10) from nI_div (b := 10) (by omega) (by decide) (by decide), bd_v hb, c_whyRing hP hb hpl hp hC h1, b2_some]
        · rw [if_pos (show (100 : Int32) ≤ nI (tn9 v) from le_li 100 (by omega) (by omega)), if_neg e4]
          by_cases e5 : tn9 v < 200
          · rw [if_neg (show ¬ (200 : Int32) ≤ nI (tn9 v) from ge_li 200 e5 (by decide)), if_pos e5, show nI (tn9 v) - 100 = nI (tn9 v - 100) from nI_sub (b := 100) (by omega), bd_v hb, c_isLine hP hb hpl hp, b2_some]
            by_cases e6 : isL (pW P) (nI (tn9 v - 100)) = true
            · rw [b2i_e e6, if_neg (by decide), if_pos e6]
            · rw [b2i_ne e6, if_pos rfl, if_neg e6]
          · rw [if_pos (show (200 : Int32) ≤ nI (tn9 v) from le_li 200 (by omega) (by omega)), if_neg e5, show nI (tn9 v) - 200 = nI (tn9 v - 200) from nI_sub (b := 200) (by omega), bd_v hb, c_whyPull hb hC h1, b2_some]
      · rw [if_neg e3, if_neg (by omega)]
theorem inL_d (v : Int64) (a c : Int64) : inL v a c = (decide (a.toInt ≤ v.toInt) && decide (v.toInt ≤ c.toInt)) := by
  unfold inL
  congr 1 <;> rw [decide_eq_decide, Int64.le_iff_toInt_le]
theorem e_whyTold (hs : St S R) (hP : PlOK P) {I : mkI} (hK : I 198 1 = nI (pW P)) {C : Nat} {f : Nat → Int32} (hB : RBoard C f (I 198)) (v : Int64) : F_X12_whyTold (some 197) v (mk S I L R n) = some (aWhy (pW P) C f v, mk S I L R n) := by
  have w2 := hP.2.1
  have hC := hB.1
  have hK7 : I 198 7 = nI C := by rw [hB.2.2.2.1, hB.2.1]
  unfold F_X12_whyTold F_X12_whyTold_91 F_X12_whyTold_69 aWhy
  simp only [lgm, lgc, e_within, inL_d, show (0 : Int64).toInt = 0 by decide, show (99 : Int64).toInt = 99 by decide, show (100 : Int64).toInt = 100 by decide, show (199 : Int64).toInt = 199 by decide, show (200 : Int64).toInt = 200 by decide]
  by_cases e1 : v.toInt = -1
  · rw [if_pos e1, if_pos e1]
  · rw [if_neg e1, if_neg e1, b2_some]
    by_cases e2 : 0 ≤ v.toInt ∧ v.toInt < 300
    · obtain ⟨t1, t2⟩ := v_t e2
      have ti : v.toInt = (tn9 v : Int) := by unfold tn9; omega
      rw [if_pos e2]
      obtain ⟨t, ht⟩ : ∃ t, t = tn9 v := ⟨_, rfl⟩
      rw [← ht] at t1 t2 ti ⊢
      by_cases e4 : t < 100
      · have ed : v / 10 = (nI (t / 10)).toInt64 := by
          rw [t1, nL_nI (by omega), nL_nI (by omega), show (10 : Int64) = nL 10 from rfl, nL_div (by omega) (by omega) (by omega)]
        have em : v - v / 10 * 10 = (nI (t % 10)).toInt64 := by
          rw [t1, nL_nI (by omega), nL_nI (by omega), show (10 : Int64) = nL 10 from rfl, nL_mod (by omega) (by omega) (by omega)]
        rw [decide_eq_true (show (0 : Int) ≤ v.toInt by omega), decide_eq_true (show v.toInt ≤ 99 by omega), if_neg (show ¬ b2i (true && true) = 0 by decide), if_pos e4, em, ed, show (5 : Int64) = (5 : Int32).toInt64 by decide, cv_197 hs, e_whyDial hs (show pW P ≤ 1000000 by omega) hC hK hK7, b2_some]
      · rw [decide_eq_false (show ¬ v.toInt ≤ 99 by omega), Bool.and_false, if_pos (show b2i false = 0 by decide), b2_some, if_neg e4]
        by_cases e5 : t < 200
        · have es : v - 100 = (nI (t - 100)).toInt64 := by
            rw [t1, nL_nI (by omega), nL_nI (by omega), show (100 : Int64) = nL 100 from rfl, nL_sub (by omega)]
          rw [decide_eq_true (show (100 : Int) ≤ v.toInt by omega), decide_eq_true (show v.toInt ≤ 199 by omega), if_neg (show ¬ b2i (true && true) = 0 by decide), if_pos e5, es, cv_197 hs, e_isLine2 hs (show pW P ≤ 1000000 by omega) hK, b2_some]
          by_cases e6 : isL (pW P) (nI (t - 100)) = true
          · rw [b2i_e e6, if_neg (by decide), if_pos e6]
          · rw [b2i_ne e6, if_pos rfl, if_neg e6]
        · have es : v - 200 = (nI (t - 200)).toInt64 := by
            rw [t1, nL_nI (by omega), nL_nI (by omega), show (200 : Int64) = nL 200 from rfl, nL_sub (by omega)]
          rw [decide_eq_false (show ¬ v.toInt ≤ 199 by omega), Bool.and_false, if_pos (show b2i false = 0 by decide), if_neg (show ¬ v.toInt < 200 by omega), if_neg e5, es, cv_197 hs, e_whyPull hs hB, b2_some]
    · rw [if_neg e2]
      have a1 : (decide ((0 : Int) ≤ v.toInt) && decide (v.toInt ≤ 99)) = false := by
        rw [Bool.and_eq_false_iff, decide_eq_false_iff_not, decide_eq_false_iff_not]; omega
      have a2 : (decide ((100 : Int) ≤ v.toInt) && decide (v.toInt ≤ 199)) = false := by
        rw [Bool.and_eq_false_iff, decide_eq_false_iff_not, decide_eq_false_iff_not]; omega
      rw [a1, if_pos (show b2i false = 0 by decide), b2_some, a2, if_pos (show b2i false = 0 by decide)]
      by_cases e3 : v.toInt < 200
      · rw [if_pos e3]
      · rw [if_neg e3]
        have hb1 := v.toInt_lt
        have es : (v - 200).toInt = v.toInt - 200 := by
          rw [Int64.toInt_sub, show (200 : Int64).toInt = 200 by decide, Int.bmod_eq_of_le (by omega) (by omega)]
        have hn : inL (v - 200) 0 (nI C - 1).toInt64 = false := by
          rw [inL_d, Bool.and_eq_false_iff, decide_eq_false_iff_not, decide_eq_false_iff_not, es, Int32.toInt_toInt64]
          right
          rcases Nat.eq_zero_or_pos C with h | h
          · subst h; rw [show (nI 0 - 1 : Int32).toInt = -1 by decide]; omega
          · rw [nI_sub1 h, nI_toInt (by omega)]; omega
        unfold F_X12_whyPull F_X12_whyPull_31
        rw [cv_197 hs, cv_197 hs, e_isCall hs, b2_some, hK7, hn, if_pos (show b2i false = 0 by decide), b2_some]
/-! done -/
theorem aDo_ok (hP : PlOK P) {s : GS} (hG : GI P s) (hM : s.2.2 ≤ 200000) {v : Int64} (h0 : aWhy (pW P) s.1.1 s.1.2 v = 0) : GI P (aDo P s v) ∧ (aDo P s v).2.2 ≤ s.2.2 + 1 ∧ Sub s.1 (aDo P s v).1 := by
  obtain ⟨F, T, D, hB⟩ := hG
  have w2 := hP.2.1
  have hC := hB.1.1
  unfold aWhy at h0
  unfold aDo
  by_cases e1 : v.toInt = -1
  · rw [if_pos e1]
    exact ⟨⟨F, T, D, hB.pass hP frc0_ok (by omega)⟩, Nat.le_refl _, Sub.pass hP frc0_ok hB 1 rfl (fun _ _ => rfl)⟩
  · rw [if_neg e1] at h0 ⊢
    by_cases e2 : 0 ≤ v.toInt ∧ v.toInt < 300
    · rw [if_pos e2] at h0
      by_cases e4 : tn9 v < 100
      · rw [if_pos e4] at h0 ⊢
        obtain ⟨c10, a, b, z, ha, hb, hab, z1, z2, l1, l2, l3⟩ := aRing_0 w2 h0
        have z5 : z = 5 := ((nI_eq (a := 5) (by omega) (by omega)).mp l3).symm
        refine ⟨⟨up1 F s.1.1 a, up1 T s.1.1 b, up1 D s.1.1 z, ?_⟩, Nat.le_succ _, ⟨Nat.le_succ _, fun c j hc hj => ?_⟩⟩
        · have := hB.add c10 hM ha hb hab (t := s.2.2) ⟨hM, by omega⟩ z1 z2
          rw [← l1, ← l2, z5] at this
          rw [z5]
          exact this
        · show s.1.2 _ = aAdd _ _ _ _ _ _ _
          rw [aAdd_old (by omega) (by omega)]
      · rw [if_neg e4] at h0 ⊢
        by_cases e5 : tn9 v < 200
        · rw [if_pos e5]
          exact ⟨⟨F, T, D, hB.door _⟩, Nat.le_succ _, ⟨Nat.le_refl _, fun c j hc hj => by
            show s.1.2 _ = up1 _ _ _ _
            rw [up1_ne _ _ (by omega)]⟩⟩
        · rw [if_neg e5]
          exact ⟨⟨F, T, D, hB.over _⟩, Nat.le_succ _, ⟨Nat.le_refl _, fun c j hc hj => by
            show s.1.2 _ = up1 _ _ _ _
            rw [up1_ne _ _ (by omega)]⟩⟩
    · rw [if_neg e2] at h0; exact absurd h0 (by decide)
theorem c_doTold (hP : PlOK P) (hw : LW S) (hb : BdS S R b ca co) (hk : CoS S R co o lf cf lg cg) (hn : NPa ca co o lf cf lg cg) (hpl : R b 2 = some p) {I : mkI} (hp : CPlan P S R I p) {s : GS} (hI : I ca = s.1.2) (hG : GI P s) (hM : s.2.2 ≤ 200000) {v : Int64} (h0 : aWhy (pW P) s.1.1 s.1.2 v = 0) : ∃ I', F_X0_doTold (some b) v (mk S I L R n) = some (mk S I' L R n) ∧ I' ca = (aDo P s v).1.2 ∧ ∀ x, x ≠ ca → x ≠ co → x ≠ o → x ≠ lf → x ≠ cf → x ≠ lg → x ≠ cg → S (x - 2) ≠ (14, 0) → I' x = I x := by
  obtain ⟨F, T, D, hB⟩ := hG
  have w2 := hP.2.1
  have hC := hB.1.1
  obtain ⟨y1, y2, y3, y4, y5, y6, y7⟩ := id hB
  have hC1 : I ca 1 = nI s.1.1 := by rw [hI]; exact y1.2.1
  unfold aWhy at h0
  unfold F_X0_doTold F_X0_doTold_69 aDo
  simp only [lgm]
  by_cases e1 : v.toInt = -1
  · rw [if_pos e1, if_pos e1]
    obtain ⟨I2, q1, q2, q3⟩ := c_pass (L := L) (n := n) hP hw hb hk hn hpl (I := I) hp (M := s.2.2) (k := 1) (by rw [hI]; exact y1) (by rw [hI]; exact y3) (by rw [hI]; exact fun d hd z => (y4 d hd z).1) (by rw [hI]; exact fun d hd z => (y5 d hd z).1) (by rw [hI]; exact y6) (by rw [hI]; exact y2) (by omega)
    rw [hI] at q2
    refine ⟨I2, ?_, q2, q3⟩
    rw [bd_v hb, show (1 : Int32) = nI 1 from rfl, q1, b2_some]
  · rw [if_neg e1] at h0
    rw [if_neg e1, if_neg e1]
    by_cases e2 : 0 ≤ v.toInt ∧ v.toInt < 300
    · rw [if_pos e2] at h0
      obtain ⟨t1, t2⟩ := v_t e2
      have t32 : v.toInt32 = nI (tn9 v) := by rw [t1, Int32.toInt32_toInt64]; rw [← t1]
      rw [t32]
      by_cases e4 : tn9 v < 100
      · rw [if_pos e4] at h0
        rw [if_neg (show ¬ (100 : Int32) ≤ nI (tn9 v) from ge_li 100 e4 (by decide)), if_pos e4]
        have c10 := (aRing_0 w2 h0).1
        obtain ⟨I2, z1, z2, z3⟩ := c_addCall (L := L) (n := n) hb c10 (I := I) hC1 (nI (tn9 v / 10)) (nI (tn9 v % 10)) (nI s.2.2) (nI 5)
        rw [hI] at z2
        refine ⟨I2, ?_, z2, fun x h _ _ _ _ _ _ _ => z3 x h⟩
        unfold F_X0_ring
        rw [nI_rem10 _ (by omega), show nI (tn9 v) / 10 = nI (tn9 v / 10) from nI_div (b := 10) (by omega) (by decide) (by decide), bd_v hb, bd_v hb, c_minute hb, b2_some, hI, y2, bd_v hb]
        have z1' : F_X0_addCall (some b) (nI (tn9 v / 10)) (nI (tn9 v % 10)) (nI s.2.2) 5 (mk S I L R n) = some (nI s.1.1, mk S I2 L R n) := z1
        rw [z1', b2_some, b2_some]
      · rw [if_neg e4] at h0
        rw [if_pos (show (100 : Int32) ≤ nI (tn9 v) from le_li 100 (by omega) (by omega)), if_neg e4]
        by_cases e5 : tn9 v < 200
        · rw [if_pos e5] at h0
          rw [if_neg (show ¬ (200 : Int32) ≤ nI (tn9 v) from ge_li 200 e5 (by decide)), if_pos e5]
          have e6 : isL (pW P) (nI (tn9 v - 100)) = true := by
            by_cases q : isL (pW P) (nI (tn9 v - 100)) = true
            · exact q
            · rw [if_neg q] at h0; exact absurd h0 (by decide)
          obtain ⟨y, hy⟩ : ∃ y, y = s.1.2 2 ^^^ ((1 : Int32) <<< (nI (tn9 v - 100) &&& 31)) := ⟨_, rfl⟩
          refine ⟨up2 I ca 2 y, ?_, ?_, fun x h _ _ _ _ _ _ _ => up2_ne _ _ _ h⟩
          · unfold F_X0_turnDoor F_X0_turnDoor_20
            rw [show nI (tn9 v) - 100 = nI (tn9 v - 100) from nI_sub (b := 100) (by omega), bd_v hb, bd_v hb, c_isLine hP hb hpl hp, b2_some, e6, if_neg (by decide), bd_g hb, Option.bind_some, show (2 : Int32) = nI 2 from rfl, bd_a hb (by decide), Option.bind_some, bd_s hb (by decide), Option.bind_some, hI, ← hy, Option.bind_some]
          · rw [up2_row, hI, hy]
        · rw [if_neg e5] at h0
          rw [if_pos (show (200 : Int32) ≤ nI (tn9 v) from le_li 200 (by omega) (by omega)), if_neg e5]
          obtain ⟨c, hc, hcc, -⟩ := aPull_0 hC h0
          have hcc' : tn9 v - 200 = c := (nI_eq (by omega) (by omega)).mp hcc
          refine ⟨up2 I ca (15 + 7 * c) 2, ?_, ?_, fun x h _ _ _ _ _ _ _ => up2_ne _ _ _ h⟩
          · have s4 : F_X0_setFact (some b) (nI c) (4 : Int32) (2 : Int32) (mk S I L R n) = some (mk S (up2 I ca (15 + 7 * c) 2) L R n) := by
              have := c_setFact (n := n) (L := L) (w := 4) hb hC (I := I) hC1 hc (by decide) 2
              rw [show 11 + 7 * c + 4 = 15 + 7 * c by omega] at this; exact this
            have s6 : F_X0_fact (some b) (nI c) (6 : Int32) (mk S (up2 I ca (15 + 7 * c) 2) L R n) = some (up2 I ca (15 + 7 * c) 2 ca (11 + 7 * c + 6), mk S (up2 I ca (15 + 7 * c) 2) L R n) := c_fact (n := n) (L := L) (w := 6) hb hC (by rw [up2_row, up1_ne _ _ (by omega)]; exact hC1) hc (by decide)
            unfold F_X0_unplug
            rw [show nI (tn9 v) - 200 = nI (tn9 v - 200) from nI_sub (b := 200) (by omega), hcc', bd_v hb, bd_v hb, s4, Option.bind_some, bd_v hb, s6, b2_some, b2_some]
          · rw [up2_row, hI, hcc']
    · rw [if_neg e2] at h0; exact absurd h0 (by decide)
theorem e_does (hs : St S R) (hP : PlOK P) {I : mkI} (hKP : RPlan P (I 198)) {s : GS} (hB : RBoard s.1.1 s.1.2 (I 198)) (hf : ∀ j, j < 10 → I 205 j = -1) (hG : GI P s) (hM : s.2.2 ≤ 200000) {v : Int64} (h0 : aWhy (pW P) s.1.1 s.1.2 v = 0) : ∃ I', F_X12_does (some 197) v.toInt32 (mk S I L R n) = some (mk S I' L R n) ∧ RBoard (aDo P s v).1.1 (aDo P s v).1.2 (I' 198) ∧ (∀ a, a ≠ 197 → a ≠ 198 → a ≠ 203 → a ≠ 204 → I' a = I a) ∧ (∀ k, k ≠ 22 → I' 197 k = I 197 k) ∧ ∀ k, k < 7 ∨ (48 ≤ k ∧ k < 51) ∨ 91 ≤ k → I' 198 k = I 198 k := by
  obtain ⟨F, T, D, hBI⟩ := hG
  have w2 := hP.2.1
  have hC := hBI.1.1
  unfold aWhy at h0
  unfold F_X12_does F_X12_does_84 aDo
  by_cases e1 : v.toInt = -1
  · have ev : v = -1 := v_m.mp e1
    rw [if_pos e1, ev, if_pos (by decide)]
    obtain ⟨I', q1, q2, -⟩ := e_minK (L := L) (n := n) hs hP hBI (I0 := I) hKP (frc_ok0 hf) (k := 0) (by omega) (MinS.zero hBI (by omega) hB)
    obtain ⟨m1, m2⟩ := q2
    obtain ⟨r1, -⟩ := run_0 (P := P) (n := 0 + 1) (m := s.2.2) (f := s.1.2) (A := s.2.1) hf hC s.1.2
    rw [r1] at m2
    refine ⟨I', ?_, m2, fun a h1 h2 h3 h4 => m1.1 a h1 h2 h3 h4, m1.2.1, fun k hk => m1.2.2 k (by omega)⟩
    rw [cv_197 hs, q1, Option.bind_some]
  · rw [if_neg e1] at h0 ⊢
    by_cases e2 : 0 ≤ v.toInt ∧ v.toInt < 300
    · rw [if_pos e2] at h0
      obtain ⟨t1, t2⟩ := v_t e2
      have t32 : v.toInt32 = nI (tn9 v) := by rw [t1, Int32.toInt32_toInt64]; rw [← t1]
      rw [t32, if_neg (nI_nm1 (by omega))]
      by_cases e4 : tn9 v < 100
      · rw [if_pos e4] at h0
        rw [if_neg (show ¬ (100 : Int32) ≤ nI (tn9 v) from ge_li 100 e4 (by decide)), if_pos e4]
        have c10 := (aRing_0 w2 h0).1
        obtain ⟨I', l1, l2, l3, l4⟩ := e_laysCall (L := L) (n := n) hs hB c10 (nI (tn9 v / 10)) (nI (tn9 v % 10)) (nI s.2.2) (nI 5) (by rw [hBI.2.1]; exact nI_nlt (Nat.le_refl _) (by omega))
        refine ⟨I', ?_, l2, fun a _ h _ _ => l3 a h, fun k _ => by rw [l3 _ (by decide)], l4⟩
        have l1' : F_X12_laysCall (some 198) (nI (tn9 v / 10)) (nI (tn9 v % 10)) (nI s.2.2) 5 (mk S I L R n) = some (mk S I' L R n) := l1
        rw [gr_197_0 hs, Option.bind_some, Option.bind_some, ail_198 hs (show 47 < 3205 by decide), Option.bind_some, nI_rem10 _ (by omega), show nI (tn9 v) / 10 = nI (tn9 v / 10) from nI_div (b := 10) (by omega) (by decide) (by decide), hB.2.2.1, hBI.2.1, l1', Option.bind_some]
      · rw [if_neg e4] at h0
        rw [if_pos (show (100 : Int32) ≤ nI (tn9 v) from le_li 100 (by omega) (by omega)), if_neg e4]
        by_cases e5 : tn9 v < 200
        · rw [if_pos e5] at h0
          rw [if_neg (show ¬ (200 : Int32) ≤ nI (tn9 v) from ge_li 200 e5 (by decide)), if_pos e5]
          obtain ⟨y, hy⟩ : ∃ y, y = s.1.2 2 ^^^ ((1 : Int32) <<< (nI (tn9 v - 100) &&& 31)) := ⟨_, rfl⟩
          have s46 : sI (mk S I L R n) (some 198) 0 (46 : Int32) y = some (mk S (up2 I 198 46 y) L R n) := si_198 (k := 46) hs (by decide)
          refine ⟨up2 I 198 46 y, ?_, ?_, fun a _ h _ _ => up2_ne _ _ _ h, fun k _ => by rw [up2_ne _ _ _ (by decide)], fun k hk => by rw [up2_row, up1_ne _ _ (by omega)]⟩
          · rw [gr_197_0 hs, Option.bind_some, ail_198 hs (show 46 < 3205 by decide), Option.bind_some, hB.2.2.2.2.1, show nI (tn9 v) - 100 = nI (tn9 v - 100) from nI_sub (b := 100) (by omega), ← hy, s46, Option.bind_some]
          · rw [up2_row, ← hy]; exact rb_do hB y
        · rw [if_neg e5] at h0
          rw [if_pos (show (200 : Int32) ≤ nI (tn9 v) from le_li 200 (by omega) (by omega)), if_neg e5]
          obtain ⟨c, hc, hcc, -⟩ := aPull_0 hC h0
          have hcc' : tn9 v - 200 = c := (nI_eq (by omega) (by omega)).mp hcc
          refine ⟨up2 I 198 (8 + c) 2, ?_, ?_, fun a _ h _ _ => up2_ne _ _ _ h, fun k _ => by rw [up2_ne _ _ _ (by decide)], fun k hk => by rw [up2_row, up1_ne _ _ (by omega)]⟩
          · rw [gr_197_0 hs, Option.bind_some, li_add 8, show nI (8 + tn9 v) - 200 = nI (8 + c) from (nI_sub (b := 200) (show 200 ≤ 8 + tn9 v by omega)).trans (by rw [show 8 + tn9 v - 200 = 8 + c by omega]), si_198 hs (show 8 + c < 3205 by omega), Option.bind_some]
          · rw [up2_row, hcc']; exact rb_st hB hc 2
    · rw [if_neg e2] at h0; exact absurd h0 (by decide)
end TD
