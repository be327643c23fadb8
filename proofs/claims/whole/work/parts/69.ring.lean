/-! a call more, on both sides -/
section CRi
variable {S : mkS} {L : mkL} {R : mkR} {n : Nat × Nat} {b ca co p : Nat} {P : PL}
theorem c_addCall (hb : BdS S R b ca co) {I : mkI} {C : Nat} (hC : C < 10) (h1 : I ca 1 = nI C) (fr to at_ la : Int32) : ∃ I', F_X0_addCall (some b) fr to at_ la (mk S I L R n) = some (nI C, mk S I' L R n) ∧ I' ca = aAdd C (I ca) fr to at_ la ∧ ∀ x, x ≠ ca → I' x = I x := by
  have s1 : ∀ x : Int32, sI (mk S I L R n) (some ca) 0 (1 : Int32) x = some (mk S (up2 I ca 1 x) L R n) := fun x => bd_s (k := 1) hb (by decide)
  have g1 : aI (mk S I L R n) (some ca) 0 (1 : Int32) = some (nI C) := by rw [← h1]; exact bd_a (k := 1) hb (by decide)
  have sf : ∀ (w : Nat) (J : mkI) (x : Int32), w < 7 → J ca 1 = nI (C + 1) → F_X0_setFact (some b) (nI C) (nI w) x (mk S J L R n) = some (mk S (up2 J ca (11 + 7 * C + w) x) L R n) := fun w J x hw h1 => c_setFact hb (by omega) h1 (by omega) hw x
  have hold : ∀ (J : mkI) (j : Nat) (x : Int32), j ≠ 1 → J ca 1 = nI (C + 1) → up2 J ca j x ca 1 = nI (C + 1) := fun J j x hj h => by rw [up2_row, up1_ne _ _ (fun q => hj q.symm)]; exact h
  obtain ⟨J0, hJ0⟩ : ∃ J, J = up2 I ca 1 (nI (C + 1)) := ⟨_, rfl⟩
  have k0 : J0 ca 1 = nI (C + 1) := by rw [hJ0, up2_self]
  obtain ⟨J1, hJ1⟩ : ∃ J, J = up2 J0 ca (11 + 7 * C + 0) fr := ⟨_, rfl⟩
  have k1 : J1 ca 1 = nI (C + 1) := by rw [hJ1]; exact hold _ _ _ (by omega) k0
  obtain ⟨J2, hJ2⟩ : ∃ J, J = up2 J1 ca (11 + 7 * C + 1) to := ⟨_, rfl⟩
  have k2 : J2 ca 1 = nI (C + 1) := by rw [hJ2]; exact hold _ _ _ (by omega) k1
  obtain ⟨J3, hJ3⟩ : ∃ J, J = up2 J2 ca (11 + 7 * C + 2) at_ := ⟨_, rfl⟩
  have k3 : J3 ca 1 = nI (C + 1) := by rw [hJ3]; exact hold _ _ _ (by omega) k2
  obtain ⟨J4, hJ4⟩ : ∃ J, J = up2 J3 ca (11 + 7 * C + 3) la := ⟨_, rfl⟩
  have k4 : J4 ca 1 = nI (C + 1) := by rw [hJ4]; exact hold _ _ _ (by omega) k3
  have m4 : J4 ca 0 = I ca 0 := by rw [hJ4, hJ3, hJ2, hJ1, hJ0, up2_row, up2_row, up2_row, up2_row, up2_row, up1_ne _ _ (by omega), up1_ne _ _ (by omega), up1_ne _ _ (by omega), up1_ne _ _ (by omega), up1_ne _ _ (by omega)]
  have e1 : F_X0_setFact (some b) (nI C) (0 : Int32) fr (mk S J0 L R n) = some (mk S J1 L R n) := by rw [hJ1]; exact sf 0 J0 fr (by decide) k0
  have e2 : F_X0_setFact (some b) (nI C) (1 : Int32) to (mk S J1 L R n) = some (mk S J2 L R n) := by rw [hJ2]; exact sf 1 J1 to (by decide) k1
  have e3 : F_X0_setFact (some b) (nI C) (2 : Int32) at_ (mk S J2 L R n) = some (mk S J3 L R n) := by rw [hJ3]; exact sf 2 J2 at_ (by decide) k2
  have e4 : F_X0_setFact (some b) (nI C) (3 : Int32) la (mk S J3 L R n) = some (mk S J4 L R n) := by rw [hJ4]; exact sf 3 J3 la (by decide) k3
  have e77 : ∀ s : Int32, F_X0_addCall_77 (some b) (nI C) s (4 : Int32) (nI C) (some b) (mk S J4 L R n) = some (nI C, mk S (up2 (up2 (up2 J4 ca (11 + 7 * C + 4) s) ca (11 + 7 * C + 5) (-1)) ca (11 + 7 * C + 6) (-1)) L R n) := by
    intro s
    have k5 : up2 J4 ca (11 + 7 * C + 4) s ca 1 = nI (C + 1) := hold _ _ _ (by omega) k4
    have k6 : up2 (up2 J4 ca (11 + 7 * C + 4) s) ca (11 + 7 * C + 5) (-1) ca 1 = nI (C + 1) := hold _ _ _ (by omega) k5
    have a1 : F_X0_setFact (some b) (nI C) (4 : Int32) s (mk S J4 L R n) = some (mk S (up2 J4 ca (11 + 7 * C + 4) s) L R n) := sf 4 J4 s (by decide) k4
    have a2 : F_X0_setFact (some b) (nI C) (5 : Int32) (-1) (mk S (up2 J4 ca (11 + 7 * C + 4) s) L R n) = some (mk S (up2 (up2 J4 ca (11 + 7 * C + 4) s) ca (11 + 7 * C + 5) (-1)) L R n) := sf 5 _ (-1) (by decide) k5
    have a3 : F_X0_setFact (some b) (nI C) (6 : Int32) (-1) (mk S (up2 (up2 J4 ca (11 + 7 * C + 4) s) ca (11 + 7 * C + 5) (-1)) L R n) = some (mk S (up2 (up2 (up2 J4 ca (11 + 7 * C + 4) s) ca (11 + 7 * C + 5) (-1)) ca (11 + 7 * C + 6) (-1)) L R n) := sf 6 _ (-1) (by decide) k6
    unfold F_X0_addCall_77
    rw [bd_v hb, a1, Option.bind_some, bd_v hb, a2, Option.bind_some, bd_v hb, a3, Option.bind_some]
  refine ⟨up2 (up2 (up2 J4 ca (11 + 7 * C + 4) (if at_ < I ca 0 then 3 else 0)) ca (11 + 7 * C + 5) (-1)) ca (11 + 7 * C + 6) (-1), ?_, ?_, fun x hx => ?_⟩
  · unfold F_X0_addCall
    rw [bd_v hb, c_calls hb, b2_some, h1, if_pos (show nI C < (10 : Int32) from nI_lt (b := 10) hC (by omega)), bd_v hb, c_calls hb, b2_some, h1, bd_g hb, Option.bind_some, g1, Option.bind_some, nI_1, s1, Option.bind_some, ← hJ0, bd_v hb, e1, Option.bind_some, bd_v hb, e2, Option.bind_some, bd_v hb, e3, Option.bind_some, bd_v hb, e4, Option.bind_some, bd_v hb, c_minute hb, b2_some, m4, e77, e77]
    by_cases q : at_ < I ca 0
    · have q2 : ¬ I ca 0 ≤ at_ := by rw [Int32.le_iff_toInt_le]; rw [Int32.lt_iff_toInt_lt] at q; omega
      rw [if_pos q, if_neg q2]
    · have q2 : I ca 0 ≤ at_ := by rw [Int32.le_iff_toInt_le]; rw [Int32.lt_iff_toInt_lt] at q; omega
      rw [if_neg q, if_pos q2]
  · rw [up2_row, up2_row, up2_row, hJ4, up2_row, hJ3, up2_row, hJ2, up2_row, hJ1, up2_row, hJ0, up2_row]
    unfold aAdd
    rw [show 11 + 7 * C + 0 = 11 + 7 * C from rfl, show 11 + 7 * C + 1 = 12 + 7 * C by omega, show 11 + 7 * C + 2 = 13 + 7 * C by omega, show 11 + 7 * C + 3 = 14 + 7 * C by omega, show 11 + 7 * C + 4 = 15 + 7 * C by omega, show 11 + 7 * C + 5 = 16 + 7 * C by omega, show 11 + 7 * C + 6 = 17 + 7 * C by omega]
  · rw [up2_ne _ _ _ hx, up2_ne _ _ _ hx, up2_ne _ _ _ hx, hJ4, up2_ne _ _ _ hx, hJ3, up2_ne _ _ _ hx, hJ2, up2_ne _ _ _ hx, hJ1, up2_ne _ _ _ hx, hJ0, up2_ne _ _ _ hx]
theorem c_whyRing (hP : PlOK P) (hb : BdS S R b ca co) (hpl : R b 2 = some p) {I : mkI} (hp : CPlan P S R I p) {C : Nat} (hC : C ≤ 10) (h1 : I ca 1 = nI C) (l m t : Int32) : F_X0_whyNotRing (some b) l m t (mk S I L R n) = some (aRing (pW P) C l m t, mk S I L R n) := by
  unfold F_X0_whyNotRing F_X0_whyNotRing_32 F_X0_whyNotRing_48 aRing aOkL
  simp only [bd_v hb, c_isLine hP hb hpl hp, b2_some, b2i_0, c_calls hb, h1]
  cases q1 : isL (pW P) l
  · simp
  · cases q2 : isL (pW P) m
    · simp
    · by_cases q3 : l = m
      · simp [q3]
      · unfold wI
        by_cases q4 : t < 1
        · simp [q3, q4]
        · by_cases q5 : t ≤ 99
          · have e : (nI C < (10 : Int32)) = (C < 10) := propext (nI_ltI (b := 10) (by omega) (by omega))
            simp only [e]
            by_cases q6 : C < 10 <;> simp [q3, q4, q5, q6]
          · simp [q3, q4, q5]
theorem e_whyDial (hs : St S R) {I : mkI} {W C : Nat} (hW : W ≤ 1000000) (hC : C ≤ 10) (hK : I 198 1 = nI W) (hK7 : I 198 7 = nI C) (l m t : Int32) : F_X12_whyDial (some 197) l.toInt64 m.toInt64 t.toInt64 (mk S I L R n) = some (aRing W C l m t, mk S I L R n) := by
  have eW : ∀ h, F_X12_within t.toInt64 1 99 h = some (b2i (wI t 1 99), h) := fun h => by rw [e_within]; exact congrArg (fun q => some (b2i q, h)) (inL_wI t 1 99)
  have ec : (lg_cmp l.toInt64 m.toInt64 = 0) = (l = m) := by rw [propext (lg_cmp_eq _ _), l64_eq]
  unfold F_X12_whyDial F_X12_whyDial_34 F_X12_whyDial_52 aRing aOkL
  simp only [cv_197 hs, e_isLine2 hs hW hK, b2_some, b2i_0, eW, ec, e_calls hs, hK7]
  cases q1 : isL W l
  · simp
  · cases q2 : isL W m
    · simp
    · by_cases q3 : l = m
      · simp [q3]
      · cases q4 : wI t 1 99
        · simp [q3]
        · have e : (nI C = (10 : Int32)) = (C = 10) := propext (nI_eq (b := 10) (by omega) (by omega))
          simp only [e]
          by_cases q6 : C < 10
          · have : ¬ C = 10 := by omega
            simp [q3, q6, this]
          · have : C = 10 := by omega
            simp [q3, this]
theorem e_laysCall (hs : St S R) {I : mkI} {C : Nat} {f : Nat → Int32} (hB : RBoard C f (I 198)) (hC : C < 10) (fr to at_ la : Int32) (ha : ¬ at_ < f 0) : ∃ I', F_X12_laysCall (some 198) fr to at_ la (mk S I L R n) = some (mk S I' L R n) ∧ RBoard (C + 1) (aAdd C f fr to at_ la) (I' 198) ∧ (∀ a, a ≠ 198 → I' a = I a) ∧ ∀ k, k < 7 ∨ (48 ≤ k ∧ k < 51) ∨ 91 ≤ k → I' 198 k = I 198 k := by
  obtain ⟨b1, b2, b3, b4, b5, b6, b7⟩ := hB
  have h7 : I 198 7 = nI C := by rw [b4, b2]
  have a7 : ∀ J : mkI, aI (mk S J L R n) (some 198) 0 (7 : Int32) = some (J 198 7) := fun J => ail_198 (k := 7) hs (by decide)
  have s7 : ∀ (J : mkI) (x : Int32), sI (mk S J L R n) (some 198) 0 (7 : Int32) x = some (mk S (up2 J 198 7 x) L R n) := fun J x => si_198 (k := 7) hs (by decide)
  obtain ⟨K, hK⟩ : ∃ K, K = up1 (up1 (up1 (up1 (up1 (up1 (up1 (up1 (I 198) (51 + C) fr) (61 + C) to) (71 + C) at_) (81 + C) la) (8 + C) 0) (18 + C) (-1)) (28 + C) (-1)) 7 (nI (C + 1)) := ⟨_, rfl⟩
  obtain ⟨n1, n2, n3, n4, n5, n6, n7, n8⟩ := aAdd_new (C := C) (f := f) (fr := fr) (to := to) (at_ := at_) (la := la)
  have od : ∀ j, j ≠ 1 → j < 11 + 7 * C → aAdd C f fr to at_ la j = f j := fun j => aAdd_old
  have ko : ∀ k, k ≠ 51 + C → k ≠ 61 + C → k ≠ 71 + C → k ≠ 81 + C → k ≠ 8 + C → k ≠ 18 + C → k ≠ 28 + C → k ≠ 7 → K k = I 198 k := fun k q1 q2 q3 q4 q5 q6 q7 q8 => by
    rw [hK, up1_ne _ _ q8, up1_ne _ _ q7, up1_ne _ _ q6, up1_ne _ _ q5, up1_ne _ _ q4, up1_ne _ _ q3, up1_ne _ _ q2, up1_ne _ _ q1]
  refine ⟨up2 (up2 (up2 (up2 (up2 (up2 (up2 (up2 I 198 (51 + C) fr) 198 (61 + C) to) 198 (71 + C) at_) 198 (81 + C) la) 198 (8 + C) 0) 198 (18 + C) (-1)) 198 (28 + C) (-1)) 198 7 (nI (C + 1)), ?_, ?_, fun a ha => by rw [up2_ne _ _ _ ha, up2_ne _ _ _ ha, up2_ne _ _ _ ha, up2_ne _ _ _ ha, up2_ne _ _ _ ha, up2_ne _ _ _ ha, up2_ne _ _ _ ha, up2_ne _ _ _ ha], fun k hk => ?_⟩
  · unfold F_X12_laysCall
    rw [a7, Option.bind_some, h7, li_add 51, si_198 hs (show 51 + C < 3205 by omega), Option.bind_some, li_add 61, si_198 hs (show 61 + C < 3205 by omega), Option.bind_some, li_add 71, si_198 hs (show 71 + C < 3205 by omega), Option.bind_some, li_add 81, si_198 hs (show 81 + C < 3205 by omega), Option.bind_some, li_add 8, si_198 hs (show 8 + C < 3205 by omega), Option.bind_some, li_add 18, si_198 hs (show 18 + C < 3205 by omega), Option.bind_some, li_add 28, si_198 hs (show 28 + C < 3205 by omega), Option.bind_some, a7, Option.bind_some, up2_row, up2_row, up2_row, up2_row, up2_row, up2_row, up2_row, up1_ne _ _ (by omega), up1_ne _ _ (by omega), up1_ne _ _ (by omega), up1_ne _ _ (by omega), up1_ne _ _ (by omega), up1_ne _ _ (by omega), up1_ne _ _ (by omega), h7, nI_1, s7, Option.bind_some]
  · rw [up2_row, up2_row, up2_row, up2_row, up2_row, up2_row, up2_row, up2_row, ← hK]
    refine ⟨by omega, n1, ?_, ?_, ?_, fun l hl => ?_, fun c hc => ?_⟩
    · rw [ko _ (by omega) (by omega) (by omega) (by omega) (by omega) (by omega) (by omega) (by omega), od 0 (by omega) (by omega)]; exact b3
    · rw [n1, hK, up1_self]
    · rw [ko _ (by omega) (by omega) (by omega) (by omega) (by omega) (by omega) (by omega) (by omega), od 2 (by omega) (by omega)]; exact b5
    · rw [ko _ (by omega) (by omega) (by omega) (by omega) (by omega) (by omega) (by omega) (by omega), od _ (by omega) (by omega)]; exact b6 l hl
    · by_cases e : c = C
      · subst e
        rw [n2, n3, n4, n5, n6, n7, n8, if_neg ha, hK]
        refine ⟨?_, ?_, ?_, ?_, ?_, ?_, ?_⟩
        · rw [up1_ne _ _ (by omega), up1_ne _ _ (by omega), up1_ne _ _ (by omega), up1_ne _ _ (by omega), up1_ne _ _ (by omega), up1_ne _ _ (by omega), up1_ne _ _ (by omega), up1_self]
        · rw [up1_ne _ _ (by omega), up1_ne _ _ (by omega), up1_ne _ _ (by omega), up1_ne _ _ (by omega), up1_ne _ _ (by omega), up1_ne _ _ (by omega), up1_self]
        · rw [up1_ne _ _ (by omega), up1_ne _ _ (by omega), up1_ne _ _ (by omega), up1_ne _ _ (by omega), up1_ne _ _ (by omega), up1_self]
        · rw [up1_ne _ _ (by omega), up1_ne _ _ (by omega), up1_ne _ _ (by omega), up1_ne _ _ (by omega), up1_self]
        · rw [up1_ne _ _ (by omega), up1_ne _ _ (by omega), up1_ne _ _ (by omega), up1_self]
        · rw [up1_ne _ _ (by omega), up1_ne _ _ (by omega), up1_self]
        · rw [up1_ne _ _ (by omega), up1_self]
      · have hc' : c < C := by omega
        obtain ⟨q1, q2, q3, q4, q5, q6, q7⟩ := b7 c hc'
        rw [ko _ (by omega) (by omega) (by omega) (by omega) (by omega) (by omega) (by omega) (by omega), ko _ (by omega) (by omega) (by omega) (by omega) (by omega) (by omega) (by omega) (by omega), ko _ (by omega) (by omega) (by omega) (by omega) (by omega) (by omega) (by omega) (by omega), ko _ (by omega) (by omega) (by omega) (by omega) (by omega) (by omega) (by omega) (by omega), ko _ (by omega) (by omega) (by omega) (by omega) (by omega) (by omega) (by omega) (by omega), ko _ (by omega) (by omega) (by omega) (by omega) (by omega) (by omega) (by omega) (by omega), ko _ (by omega) (by omega) (by omega) (by omega) (by omega) (by omega) (by omega) (by omega), od _ (by omega) (by omega), od _ (by omega) (by omega), od _ (by omega) (by omega), od _ (by omega) (by omega), od _ (by omega) (by omega), od _ (by omega) (by omega), od _ (by omega) (by omega)]
        exact ⟨q1, q2, q3, q4, q5, q6, q7⟩
  · rw [up2_row, up2_row, up2_row, up2_row, up2_row, up2_row, up2_row, up2_row, ← hK]
    exact ko k (by omega) (by omega) (by omega) (by omega) (by omega) (by omega) (by omega) (by omega)
end CRi
