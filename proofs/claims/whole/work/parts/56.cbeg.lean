/-! the class: a call begins -/
def frc0 : Nat → Int32 := fun _ => -1
theorem frc0_ok {P : PL} : frcOK P frc0 := fun _ _ => .inl rfl
theorem cameT_0 {P : PL} {g : Nat → Int32} {c : Nat} : cameT P frc0 g c = aComes P (g (11 + 7 * c)) (g (12 + 7 * c)) (g (13 + 7 * c)) (nI c) := by
  unfold cameT frc0; rw [if_pos rfl]
theorem sh_ne {S : mkS} {a b : Nat} {s t : Nat × Nat} (h1 : S a = s) (h2 : S b = t) (h : s ≠ t) : a ≠ b := fun q => h (by rw [← h1, q, h2])
theorem hldI_lf {I : mkI} {lf cf a e : Nat} {v t : Int32} (h : lf ≠ cf) : hldI I lf cf a e v t lf = hldX (I lf) a e v t := by
  unfold hldI hldX
  split
  · rfl
  · rw [up2_ne _ _ _ h, up2_row, up2_row]
theorem hldI_cf {I : mkI} {lf cf a e : Nat} {v t : Int32} (h : lf ≠ cf) : hldI I lf cf a e v t cf = hldY (I cf) v t := by
  unfold hldI hldY
  split
  · rfl
  · rw [up2_row, up2_ne _ _ _ (fun q => h q.symm), up2_ne _ _ _ (fun q => h q.symm)]
theorem hldI_ne {I : mkI} {lf cf a e x : Nat} {v t : Int32} (h1 : x ≠ lf) (h2 : x ≠ cf) : hldI I lf cf a e v t x = I x := by
  unfold hldI
  split
  · rfl
  · rw [up2_ne _ _ _ h2, up2_ne _ _ _ h1, up2_ne _ _ _ h1]
def NPa (ca co o lf cf lg cg : Nat) : Prop := ¬ pa ca ∧ ¬ pa co ∧ ¬ pa o ∧ ¬ pa lf ∧ ¬ pa cf ∧ ¬ pa lg ∧ ¬ pa cg
section CBg
variable {S : mkS} {I : mkI} {L : mkL} {R : mkR} {n : Nat × Nat} {b ca co o lf cf lg cg p : Nat} {P : PL}
set_option maxHeartbeats 4000000 in
theorem c_begins (hP : PlOK P) (hw : LW S) (hb : BdS S R b ca co) (hk : CoS S R co o lf cf lg cg) (hn : NPa ca co o lf cf lg cg) (hpl : R b 2 = some p) (hp : CPlan P S R I p) {C : Nat} {F T A D : Nat → Nat} (hV : BV P C (I ca) F T A D) {c e t0 : Nat} (hc : c < C) (he : e < pW P) (hcm : cameT P frc0 (I ca) c = nI e) (hR : CoR (pW P) (pC P) C (I ca) t0 (I lf) (I cf)) (ht : t0 ≤ A c) :
    ∃ I', F_X0_begins (some b) (nI c) (mk S I L R n) = some (b2i (decide (¬ gCord P frc0 C (I ca) c = -1)), mk S I' L R n) ∧ I' ca = gStep P frc0 C (I ca) c ∧ I' lf = hldX (I lf) (F c) e (gCord P frc0 C (I ca) c) (nI (A c + D c)) ∧ I' cf = hldY (I cf) (gCord P frc0 C (I ca) c) (nI (A c + D c)) ∧ ∀ x, x ≠ ca → x ≠ lf → x ≠ cf → S (x - 2) ≠ (14, 0) → I' x = I x := by
  have w2 := hP.2.1
  obtain ⟨hC, h1, hv⟩ := id hV
  obtain ⟨⟨e1, ha⟩, ⟨e2, hT⟩, -, ⟨e3, hA⟩, e4, hD1, hD2⟩ := hv c hc
  have dlc : lf ≠ cf := sh_ne hk.2.2.1.2.1 hk.2.2.1.2.2.1 (by decide)
  have dal : ca ≠ lf := sh_ne hb.2.2.2.1 hk.2.2.1.2.1 (by decide)
  have dac : ca ≠ cf := sh_ne hb.2.2.2.1 hk.2.2.1.2.2.1 (by decide)
  have nca : S (ca - 2) ≠ (14, 0) := hw.nst (by have := hb.2.2.2.2.2; omega) (by rw [hb.2.2.2.1]; decide)
  have nlf : S (lf - 2) ≠ (14, 0) := hw.nst (by have := hk.2.2.2.1.2.1; omega) (by rw [hk.2.2.1.2.1]; decide)
  have ncf : S (cf - 2) ≠ (14, 0) := hw.nst (by have := hk.2.2.2.1.2.2.1; omega) (by rw [hk.2.2.1.2.2.1]; decide)
  obtain ⟨I1, k1, x1⟩ := c_whereTo (L := L) (n := n) hP hb hpl hp hC h1 hc ha hT (show A c ≤ 1000000 by omega) e1 e2
  rw [cameT_0, e1, e2, e3] at hcm
  rw [hcm] at x1
  have u1 : I1 ca = I ca := k1 ca nca
  have ul : I1 lf = I lf := k1 lf nlf
  have uc : I1 cf = I cf := k1 cf ncf
  have p1 : CPlan P S R I1 p := hp.keep hw (fun x _ q => k1 x q)
  have fk : ∀ (w : Nat) (J : mkI), w < 7 → J ca 1 = nI C → F_X0_fact (some b) (nI c) (nI w) (mk S J L R n) = some (J ca (11 + 7 * c + w), mk S J L R n) := fun w J hw h1 => c_fact hb hC h1 hc hw
  have f2 : F_X0_fact (some b) (nI c) (2 : Int32) (mk S I L R n) = some (nI (A c), mk S I L R n) := by
    have := fk 2 I (by decide) h1; rw [show 11 + 7 * c + 2 = 13 + 7 * c by omega, e3] at this; exact this
  have f0 : F_X0_fact (some b) (nI c) (0 : Int32) (mk S I L R n) = some (nI (F c), mk S I L R n) := by
    have := fk 0 I (by decide) h1; rw [Nat.add_zero, e1] at this; exact this
  have fe : F_X0_endOf (some b) (nI c) (mk S I1 L R n) = some (nI (A c + D c), mk S I1 L R n) := by
    rw [c_endOf hb hC (by rw [u1]; exact h1) hc, u1, e3, e4, nI_add]
  obtain ⟨v, hv9⟩ : ∃ v, v = gCord P frc0 C (I ca) c := ⟨_, rfl⟩
  have etk : tkV P (I1 lf) (I1 cf) (F c) e (nI (A c)) = v := by
    rw [ul, uc, tkV_cord hP hR ht (by omega) ha he, hv9]
    unfold gCord
    rw [cameT_0, e1, e2, e3, hcm]
  have ftk := c_takeCord (L := L) (n := n) hP hk p1 (show F c < 8 by omega) (show e < 8 by omega) (nI (A c)) (nI (A c + D c))
  rw [etk] at ftk
  obtain ⟨I2, hI2⟩ : ∃ I2, I2 = hldI I1 lf cf (F c) e v (nI (A c + D c)) := ⟨_, rfl⟩
  rw [← hI2] at ftk
  have v1 : I2 ca = I ca := by rw [hI2, hldI_ne dal dac, u1]
  have vl : I2 lf = hldX (I lf) (F c) e v (nI (A c + D c)) := by rw [hI2, hldI_lf dlc, ul]
  have vc : I2 cf = hldY (I cf) v (nI (A c + D c)) := by rw [hI2, hldI_cf dlc, uc]
  have vk : ∀ x, x ≠ lf → x ≠ cf → S (x - 2) ≠ (14, 0) → I2 x = I x := fun x q1 q2 q3 => by rw [hI2, hldI_ne q1 q2, k1 x q3]
  have eG : gStep P frc0 C (I ca) c = aPutT P (I ca) c (nI (F c)) (nI e) v (nI (A c)) := by
    unfold gStep
    rw [← hv9, cameT_0, e1, e2, e3, hcm]
  rw [eG, ← hv9]
  unfold F_X0_begins aPutT
  rw [nI_clamp (by omega), nI_clamp (by omega)]
  simp only [bd_v hb, f2, f0, b2_some, x1, bd_c hb, bd_p hb hpl, Option.bind_some, fe, cq_v hk, ftk]
  have sf : ∀ (w : Nat) (J : mkI) (x : Int32), w < 7 → J ca 1 = nI C → F_X0_setFact (some b) (nI c) (nI w) x (mk S J L R n) = some (mk S (up2 J ca (11 + 7 * c + w) x) L R n) := fun w J x hw h1 => c_setFact hb hC h1 hc hw x
  by_cases hv0 : v = -1
  · rw [if_pos hv0, if_pos hv0]
    have s4 := sf 4 I2 3 (by decide) (by rw [v1]; exact h1)
    rw [show 11 + 7 * c + 4 = 15 + 7 * c by omega] at s4
    have s4' : F_X0_setFact (some b) (nI c) (4 : Int32) (3 : Int32) (mk S I2 L R n) = some (mk S (up2 I2 ca (15 + 7 * c) 3) L R n) := s4
    refine ⟨up2 I2 ca (15 + 7 * c) 3, ?_, by rw [up2_row, v1], by rw [up2_ne _ _ _ dal.symm, vl], by rw [up2_ne _ _ _ dac.symm, vc], fun x q1 q2 q3 q4 => by rw [up2_ne _ _ _ q1, vk x q2 q3 q4]⟩
    rw [s4', Option.bind_some, hv0]
    rfl
  · rw [if_neg hv0, if_neg hv0]
    obtain ⟨I3, hI3⟩ : ∃ I3, I3 = up2 (up2 (up2 I2 ca (15 + 7 * c) 1) ca (16 + 7 * c) (nI e)) ca (17 + 7 * c) v := ⟨_, rfl⟩
    have y1 : I3 ca = up1 (up1 (up1 (I ca) (15 + 7 * c) 1) (16 + 7 * c) (nI e)) (17 + 7 * c) v := by rw [hI3, up2_row, up2_row, up2_row, v1]
    have yn : ∀ x, x ≠ ca → I3 x = I2 x := fun x q => by rw [hI3, up2_ne _ _ _ q, up2_ne _ _ _ q, up2_ne _ _ _ q]
    have s4 : F_X0_setFact (some b) (nI c) (4 : Int32) (1 : Int32) (mk S I2 L R n) = some (mk S (up2 I2 ca (15 + 7 * c) 1) L R n) := by
      have := sf 4 I2 1 (by decide) (by rw [v1]; exact h1); rw [show 11 + 7 * c + 4 = 15 + 7 * c by omega] at this; exact this
    have s5 : F_X0_setFact (some b) (nI c) (5 : Int32) (nI e) (mk S (up2 I2 ca (15 + 7 * c) 1) L R n) = some (mk S (up2 (up2 I2 ca (15 + 7 * c) 1) ca (16 + 7 * c) (nI e)) L R n) := by
      have := sf 5 (up2 I2 ca (15 + 7 * c) 1) (nI e) (by decide) (by rw [up2_row, up1_ne _ _ (by omega), v1]; exact h1); rw [show 11 + 7 * c + 5 = 16 + 7 * c by omega] at this; exact this
    have s6 : F_X0_setFact (some b) (nI c) (6 : Int32) v (mk S (up2 (up2 I2 ca (15 + 7 * c) 1) ca (16 + 7 * c) (nI e)) L R n) = some (mk S I3 L R n) := by
      have := sf 6 (up2 (up2 I2 ca (15 + 7 * c) 1) ca (16 + 7 * c) (nI e)) v (by decide) (by rw [up2_row, up2_row, up1_ne _ _ (by omega), up1_ne _ _ (by omega), v1]; exact h1); rw [show 11 + 7 * c + 6 = 17 + 7 * c by omega, ← hI3] at this; exact this
    have p3 : CPlan P S R I3 p := hp.keep hw (fun x q1 q2 => by
      have g1 : x ≠ ca := fun q => hn.1 (q ▸ q1)
      have g2 : x ≠ lf := fun q => hn.2.2.2.1 (q ▸ q1)
      have g3 : x ≠ cf := fun q => hn.2.2.2.2.1 (q ▸ q1)
      rw [yn x g1, vk x g2 g3 q2])
    have r1 : I3 ca 1 = nI C := by rw [y1, up1_ne _ _ (by omega), up1_ne _ _ (by omega), up1_ne _ _ (by omega)]; exact h1
    have rT : I3 ca (11 + 7 * c + 1) = nI (T c) := by rw [y1, up1_ne _ _ (by omega), up1_ne _ _ (by omega), up1_ne _ _ (by omega), show 11 + 7 * c + 1 = 12 + 7 * c by omega, e2]
    have rs : ∀ l, l < 8 → I3 ca (3 + l) = I ca (3 + l) := fun l hl => by rw [y1, up1_ne _ _ (by omega), up1_ne _ _ (by omega), up1_ne _ _ (by omega)]
    have fT : F_X0_fact (some b) (nI c) (1 : Int32) (mk S I3 L R n) = some (nI (T c), mk S I3 L R n) := by
      have := fk 1 I3 (by decide) r1; rw [rT] at this; exact this
    have fin3 : ∀ I4 : mkI, keepL S I3 I4 → I4 ca = up1 (up1 (up1 (I ca) (15 + 7 * c) 1) (16 + 7 * c) (nI e)) (17 + 7 * c) v ∧ I4 lf = hldX (I lf) (F c) e v (nI (A c + D c)) ∧ I4 cf = hldY (I cf) v (nI (A c + D c)) ∧ ∀ x, x ≠ ca → x ≠ lf → x ≠ cf → S (x - 2) ≠ (14, 0) → I4 x = I x := fun I4 k4 => ⟨by rw [k4 ca nca, y1], by rw [k4 lf nlf, yn lf dal.symm, vl], by rw [k4 cf ncf, yn cf dac.symm, vc], fun x q1 q2 q3 q4 => by rw [k4 x q4, yn x q1, vk x q2 q3 q4]⟩
    have one : some (b2i (decide (¬ v = -1)), mk S I3 L R n) = rZ 1 (mk S I3 L R n) := by rw [decide_eq_true hv0]; rfl
    simp only [s4, s5, s6, bd_v hb, Option.bind_some]
    unfold F_X0_begins_106 F_X0_begins_107 F_X0_begins_147
    simp only [c_spouse hP hb hpl p3 (show F c < 20 by omega), c_spouse hP hb hpl p3 (show e < 20 by omega), b2_some, if_pos ha, if_pos he, rs _ (show F c < 8 by omega), rs _ (show e < 8 by omega), bd_v hb, fT, bd_p hb hpl, Option.bind_some, pl_v p3.1]
    obtain ⟨I4, k4, x4⟩ := c_isWedding (L := L) (n := n) (M := A c) (c := c) hP hw p3 ha he
    have u4 : I4 ca = I3 ca := k4 ca nca
    have p4 : CPlan P S R I4 p := p3.keep hw (fun x _ q => k4 x q)
    have fm := c_marry (L := L) (n := n) hP hb hpl p4 ha he
    simp only [x4, b2_some, b2i_0, fm, Option.bind_some]
    have rz : ∀ J : mkI, rZ 1 (mk S J L R n) = some (b2i (decide (¬ v = -1)), mk S J L R n) := fun J => by rw [decide_eq_true hv0]; rfl
    simp only [rz]
    by_cases t2 : I ca (3 + F c) = -1
    · rw [if_pos t2]
      by_cases t3 : I ca (3 + e) = -1
      · rw [if_pos t3]
        by_cases t1 : nI e = nI (T c)
        · rw [if_pos t1, if_neg (fun h => h.1 (by rw [t1, e2]))]
          exact ⟨I3, rfl, fin3 I3 keepL.rf⟩
        · rw [if_neg t1, if_neg (by decide)]
          by_cases t4 : aWed P (nI (F c)) (nI e) (nI (A c)) (nI c) = true
          · rw [if_neg (by rw [t4]; decide), if_pos ⟨by rw [e2]; exact t1, t2, t3, t4⟩]
            obtain ⟨z1, z2, z3, z4⟩ := fin3 I4 k4
            refine ⟨up2 (up2 I4 ca (3 + F c) (nI e)) ca (3 + e) (nI (F c)), by rw [bd_v hb, Option.bind_some, rz], by rw [up2_row, up2_row, z1], by rw [up2_ne _ _ _ dal.symm, up2_ne _ _ _ dal.symm, z2], by rw [up2_ne _ _ _ dac.symm, up2_ne _ _ _ dac.symm, z3], fun x q1 q2 q3 q4 => by rw [up2_ne _ _ _ q1, up2_ne _ _ _ q1, z4 x q1 q2 q3 q4]⟩
          · rw [if_pos (by simpa using t4), if_neg (fun h => t4 h.2.2.2)]
            exact ⟨I4, rfl, fin3 I4 k4⟩
      · rw [if_neg t3, if_neg (show ¬ (nI e ≠ I ca (12 + 7 * c) ∧ I ca (3 + F c) = -1 ∧ I ca (3 + e) = -1 ∧ aWed P (nI (F c)) (nI e) (nI (A c)) (nI c) = true) from fun h => t3 h.2.2.1)]
        by_cases t1 : nI e = nI (T c)
        · rw [if_pos t1]; exact ⟨I3, rfl, fin3 I3 keepL.rf⟩
        · rw [if_neg t1, if_pos trivial]; exact ⟨I3, rfl, fin3 I3 keepL.rf⟩
    · rw [if_neg t2, if_neg (show ¬ (nI e ≠ I ca (12 + 7 * c) ∧ I ca (3 + F c) = -1 ∧ I ca (3 + e) = -1 ∧ aWed P (nI (F c)) (nI e) (nI (A c)) (nI c) = true) from fun h => t2 h.2.1)]
      by_cases t1 : nI e = nI (T c)
      · rw [if_pos t1]; exact ⟨I3, rfl, fin3 I3 keepL.rf⟩
      · rw [if_neg t1, if_pos trivial]; exact ⟨I3, rfl, fin3 I3 keepL.rf⟩
end CBg
