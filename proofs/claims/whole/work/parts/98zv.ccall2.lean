/-! the class reads calls -/
section CCb
variable {Ls : Nat} {xs : Nat → Int32} {S : mkS} {L : mkL} {R : mkR} {n : Nat × Nat} {B : BT} {w : Nat}
theorem c_readCall (hs : St S R) {D : DR} {t : TKN} {l : List Nat} {I : mkI} (h : PsC (Ls, xs, S, R) B w t l I) (hD : DfC D l I) (hg : TKg B.1 B.2 t) (hl : l.length ≤ 900) : ∃ I' v, F_X7_readCall (some 163) (mk S I L R n) = some (v, mk S I' L R n) ∧ DO (Ls, xs, S, R) B w l (callP B D t) v I' ∧ kL I I' := by
  have hD0 := hD
  obtain ⟨⟨d1, -, -, d4, d5, -⟩, -, ⟨d8, d9, -⟩, -⟩ := hD0
  unfold F_X7_readCall callP F_X7_readCall_49 F_X7_readCall_78 F_X7_readCall_104
  rw [gi_163_8 hs, Option.bind_some, d8]
  by_cases e : dC D = 10
  · obtain ⟨I1, q1, q2, q3⟩ := c_refuse (L := L) (n := n) hs h hg hl 4
    rw [if_neg (show ¬ nI (dC D) < 10 by rw [e]; decide), if_pos e, cv_163 hs, show F_X7_refuse (some 163) 4 (mk S I L R n) = _ from q1, b2_some, rZ_0]
    exact ⟨I1, 0, rfl, ⟨rfl, q2⟩, q3.l⟩
  rw [if_pos (show nI (dC D) < 10 from nI_lt (b := 10) (by omega) (by omega)), if_neg e]
  obtain ⟨I1, q1, q2, q3⟩ := c_adv (L := L) (n := n) hs h hg
  have g1 := (nx_g hg).1
  have k1 : kQ I I1 := q3.q
  -- from
  obtain ⟨I2, v2, r1, r2, r3⟩ := c_takeNumber (L := L) (n := n) hs q2 g1 hl (lo := 0) (hi := dW D - 1) (by omega) (by omega) (-1)
  have r1' : F_X7_takeNumber (some 163) 0 (nI (dW D) - 1) (-1) (mk S I1 L R n) = some (v2, mk S I2 L R n) := by rw [nI_sub1 (by omega)]; exact r1
  have o2 := numP_ok (lo := 0) (hi := dW D - 1) (un := -1) g1
  have k2 := k1.tr r3
  rw [gr_163_0 hs, Option.bind_some, cv_164 hs, q1, Option.bind_some, gi_163_6 hs, Option.bind_some, k1.2 6 (by decide) (by decide) (by decide), d1, cv_163 hs, r1', b2_some]
  cases e2 : numP B 0 (dW D - 1) (-1) (nx B t) with
  | inl q =>
    rw [e2] at r2
    obtain ⟨rfl, r2⟩ := r2
    rw [if_pos rfl, rZ_0]
    exact ⟨I2, 0, rfl, ⟨rfl, r2⟩, k2.l⟩
  | inr q =>
  obtain ⟨t1, a⟩ := q
  rw [e2] at r2 o2
  obtain ⟨rfl, ha, r2⟩ := r2
  show ∃ I' v, _ ∧ DO _ B w l (wth B 6 t1 fun t2 => nth (numP B 0 (dW D - 1) (nI a) t2) fun t3 b => wth B 7 t3 fun t4 => nth (numP B 0 999 (-1) t4) fun t5 mi => wth B 8 t5 fun t6 => nth (numP B 1 99 (-1) t6) fun t7 la => .inr (t7, (D.1, D.2.1, (dC D + 1, fun c => if c = dC D then (a, b, mi, la) else dQ D c), D.2.2.2))) v I' ∧ _
  rw [if_neg (nI_nm1 (by omega)), cv_163 hs]
  -- to
  obtain ⟨I3, v3, s1, s2, s3⟩ := c_takeWord (L := L) (n := n) hs r2 o2.1 hl (a := 6) (by decide)
  have k3 := k2.tr s3
  unfold wth
  rw [s1, b2_some]
  by_cases e3 : ¬ (wB B.1 t1 (wsOf 6) = true)
  · rw [if_neg e3] at s2 ⊢
    obtain ⟨rfl, s2⟩ := s2
    rw [if_pos rfl, rZ_0]
    exact ⟨I3, 0, rfl, ⟨rfl, s2⟩, k3.l⟩
  have e3 := Classical.not_not.mp e3
  rw [if_pos e3] at s2 ⊢
  obtain ⟨rfl, s2⟩ := s2
  have g2 := (nx_g o2.1).1
  show ∃ I' v, _ ∧ DO _ B w l (nth (numP B 0 (dW D - 1) (nI a) (nx B t1)) fun t3 b => (if wB B.1 t3 (wsOf 7) = true then nth (numP B 0 999 (-1) (nx B t3)) fun t5 mi => (if wB B.1 t5 (wsOf 8) = true then nth (numP B 1 99 (-1) (nx B t5)) fun t7 la => .inr (t7, (D.1, D.2.1, (dC D + 1, fun c => if c = dC D then (a, b, mi, la) else dQ D c), D.2.2.2)) else .inl (rf t5 2)) else .inl (rf t3 2))) v I' ∧ _
  obtain ⟨I4, v4, u1, u2, u3⟩ := c_takeNumber (L := L) (n := n) hs s2 g2 hl (lo := 0) (hi := dW D - 1) (by omega) (by omega) (nI a)
  have u1' : F_X7_takeNumber (some 163) 0 (nI (dW D) - 1) (nI a) (mk S I3 L R n) = some (v4, mk S I4 L R n) := by rw [nI_sub1 (by omega)]; exact u1
  have o4 := numP_ok (lo := 0) (hi := dW D - 1) (un := nI a) g2
  have k4 := k3.tr u3
  rw [if_neg (by decide), gi_163_6 hs, Option.bind_some, k3.2 6 (by decide) (by decide) (by decide), d1, cv_163 hs, u1', b2_some]
  cases e4 : numP B 0 (dW D - 1) (nI a) (nx B t1) with
  | inl q =>
    rw [e4] at u2
    obtain ⟨rfl, u2⟩ := u2
    rw [if_pos rfl, rZ_0]
    exact ⟨I4, 0, rfl, ⟨rfl, u2⟩, k4.l⟩
  | inr q =>
  obtain ⟨t3, b⟩ := q
  rw [e4] at u2 o4
  obtain ⟨rfl, hb, u2⟩ := u2
  show ∃ I' v, _ ∧ DO _ B w l (if wB B.1 t3 (wsOf 7) = true then nth (numP B 0 999 (-1) (nx B t3)) fun t5 mi => (if wB B.1 t5 (wsOf 8) = true then nth (numP B 1 99 (-1) (nx B t5)) fun t7 la => .inr (t7, (D.1, D.2.1, (dC D + 1, fun c => if c = dC D then (a, b, mi, la) else dQ D c), D.2.2.2)) else .inl (rf t5 2)) else .inl (rf t3 2)) v I' ∧ _
  rw [if_neg (nI_nm1 (by omega)), cv_163 hs]
  obtain ⟨I5, v5, x1, x2, x3⟩ := c_takeWord (L := L) (n := n) hs u2 o4.1 hl (a := 7) (by decide)
  have k5 := k4.tr x3
  rw [x1, b2_some]
  by_cases e5 : ¬ (wB B.1 t3 (wsOf 7) = true)
  · rw [if_neg e5] at x2 ⊢
    obtain ⟨rfl, x2⟩ := x2
    rw [if_pos rfl, rZ_0]
    exact ⟨I5, 0, rfl, ⟨rfl, x2⟩, k5.l⟩
  have e5 := Classical.not_not.mp e5
  rw [if_pos e5] at x2 ⊢
  obtain ⟨rfl, x2⟩ := x2
  have g3 := (nx_g o4.1).1
  obtain ⟨I6, v6, y1, y2, y3⟩ := c_takeNumber (L := L) (n := n) hs x2 g3 hl (lo := 0) (hi := 999) (by omega) (by omega) (-1)
  have y1' : F_X7_takeNumber (some 163) 0 999 (-1) (mk S I5 L R n) = some (v6, mk S I6 L R n) := y1
  have o6 := numP_ok (lo := 0) (hi := 999) (un := -1) g3
  have k6 := k5.tr y3
  rw [if_neg (by decide), cv_163 hs, y1', b2_some]
  cases e6 : numP B 0 999 (-1) (nx B t3) with
  | inl q =>
    rw [e6] at y2
    obtain ⟨rfl, y2⟩ := y2
    rw [if_pos rfl, rZ_0]
    exact ⟨I6, 0, rfl, ⟨rfl, y2⟩, k6.l⟩
  | inr q =>
  obtain ⟨t5, mi⟩ := q
  rw [e6] at y2 o6
  obtain ⟨rfl, hmi, y2⟩ := y2
  show ∃ I' v, _ ∧ DO _ B w l (if wB B.1 t5 (wsOf 8) = true then nth (numP B 1 99 (-1) (nx B t5)) fun t7 la => .inr (t7, (D.1, D.2.1, (dC D + 1, fun c => if c = dC D then (a, b, mi, la) else dQ D c), D.2.2.2)) else .inl (rf t5 2)) v I' ∧ _
  rw [if_neg (nI_nm1 (by omega)), cv_163 hs]
  obtain ⟨I7, v7, z1, z2, z3⟩ := c_takeWord (L := L) (n := n) hs y2 o6.1 hl (a := 8) (by decide)
  have k7 := k6.tr z3
  rw [z1, b2_some]
  by_cases e7 : ¬ (wB B.1 t5 (wsOf 8) = true)
  · rw [if_neg e7] at z2 ⊢
    obtain ⟨rfl, z2⟩ := z2
    rw [if_pos rfl, rZ_0]
    exact ⟨I7, 0, rfl, ⟨rfl, z2⟩, k7.l⟩
  have e7 := Classical.not_not.mp e7
  rw [if_pos e7] at z2 ⊢
  obtain ⟨rfl, z2⟩ := z2
  have g4 := (nx_g o6.1).1
  obtain ⟨I8, v8, m1, m2, m3⟩ := c_takeNumber (L := L) (n := n) hs z2 g4 hl (lo := 1) (hi := 99) (by omega) (by omega) (-1)
  have m1' : F_X7_takeNumber (some 163) 1 99 (-1) (mk S I7 L R n) = some (v8, mk S I8 L R n) := m1
  have k8 := k7.tr m3
  rw [if_neg (by decide), cv_163 hs, m1', b2_some]
  cases e8 : numP B 1 99 (-1) (nx B t5) with
  | inl q =>
    rw [e8] at m2
    obtain ⟨rfl, m2⟩ := m2
    rw [if_pos rfl, rZ_0]
    exact ⟨I8, 0, rfl, ⟨rfl, m2⟩, k8.l⟩
  | inr q =>
  obtain ⟨t7, la⟩ := q
  rw [e8] at m2
  obtain ⟨rfl, hla, p1, p2, p3, p4, p5, p6⟩ := m2
  obtain ⟨f0, f7, ⟨f8, f9, f10⟩, f11⟩ := hD.q k8
  have e4C : nI (dC D) * (4 : Int32) = nI (4 * dC D) := by rw [show (4 : Int32) = nI 4 from rfl, nI_mul9, Nat.mul_comm]
  obtain ⟨J, hJ⟩ : ∃ J, J = up2 (up2 (up2 (up2 (up2 I8 166 (4 * dC D) (nI a)) 166 (4 * dC D + 1) (nI b)) 166 (4 * dC D + 2) (nI mi)) 166 (4 * dC D + 3) (nI la)) 163 8 (nI (dC D + 1)) := ⟨_, rfl⟩
  have kJ : ∀ y, y ≠ 166 → y ≠ 163 → J y = I8 y := fun y c1 c2 => by rw [hJ, up2_ne _ _ _ c2, up2_ne _ _ _ c1, up2_ne _ _ _ c1, up2_ne _ _ _ c1, up2_ne _ _ _ c1]
  have pJ : ∀ j, j ≠ 8 → J 163 j = I8 163 j := fun j hj => by rw [hJ, up2_row, up1_ne _ _ hj, up2_ne _ _ _ (by decide), up2_ne _ _ _ (by decide), up2_ne _ _ _ (by decide), up2_ne _ _ _ (by decide)]
  have tJ : J 166 = up1 (up1 (up1 (up1 (I8 166) (4 * dC D) (nI a)) (4 * dC D + 1) (nI b)) (4 * dC D + 2) (nI mi)) (4 * dC D + 3) (nI la) := by rw [hJ, up2_ne _ _ _ (by decide), up2_row, up2_row, up2_row, up2_row]
  show ∃ I' v, _ ∧ DO _ B w l (.inr (t7, (D.1, D.2.1, (dC D + 1, fun c => if c = dC D then (a, b, mi, la) else dQ D c), D.2.2.2))) v I' ∧ _
  rw [if_neg (nI_nm1 (by omega)), gi_163_8 hs, Option.bind_some, f8, e4C, show nI (4 * dC D) + (1 : Int32) = nI (4 * dC D + 1) from nI_add _ 1, show nI (4 * dC D) + (2 : Int32) = nI (4 * dC D + 2) from nI_add _ 2, show nI (4 * dC D) + (3 : Int32) = nI (4 * dC D + 3) from nI_add _ 3, gr_163_2 hs, Option.bind_some, si_166 hs (by omega), Option.bind_some, gr_163_2 hs, Option.bind_some, si_166 hs (by omega), Option.bind_some, gr_163_2 hs, Option.bind_some, si_166 hs (by omega), Option.bind_some, gr_163_2 hs, Option.bind_some, si_166 hs (by omega), Option.bind_some, gi_163_8 hs, Option.bind_some, up2_ne _ _ _ (by decide), up2_ne _ _ _ (by decide), up2_ne _ _ _ (by decide), up2_ne _ _ _ (by decide), f8, nI_1 (dC D), pi_163_8 hs, Option.bind_some, ← hJ, rZ_1]
  refine ⟨J, 1, rfl, ⟨rfl, ⟨p1.fr (fun _ _ => rfl) (fun a ha => kJ a (by show a ≠ 166; omega) (by show a ≠ 163; omega)) (fun _ _ => rfl), by unfold TpC; rw [kJ _ (by decide) (by decide), kJ _ (by decide) (by decide)]; exact p2, by unfold TkC; rw [kJ _ (by decide) (by decide)]; exact p3, by rw [pJ 12 (by decide), pJ 13 (by decide), pJ 14 (by decide)]; exact p4, by rw [pJ _ (by decide)]; exact p5, by rw [kJ _ (by decide) (by decide)]; exact p6⟩, ⟨⟨by rw [pJ _ (by decide)]; exact f0.1, by rw [pJ _ (by decide)]; exact f0.2.1, by rw [pJ _ (by decide)]; exact f0.2.2.1, f0.2.2.2⟩, ⟨by rw [pJ _ (by decide)]; exact f7.1, f7.2.1, by rw [kJ _ (by decide) (by decide)]; exact f7.2.2⟩, ⟨by rw [hJ, up2_self], by show dC D + 1 ≤ 10; omega, fun c hc => ?_⟩, by rw [kJ _ (by decide) (by decide), kJ _ (by decide) (by decide)]; exact f11⟩⟩, k8.l.tr (fun y hy => kJ y (by show y ≠ 166; omega) (by show y ≠ 163; omega))⟩
  have hc' : c < dC D + 1 := hc
  rw [tJ]
  by_cases e9 : c = dC D
  · have : dQ (D.1, D.2.1, (dC D + 1, fun c => if c = dC D then (a, b, mi, la) else dQ D c), D.2.2.2) c = (a, b, mi, la) := if_pos e9
    rw [this, e9]
    refine ⟨?_, ?_, ?_, ?_⟩
    · rw [up1_ne _ _ (by omega), up1_ne _ _ (by omega), up1_ne _ _ (by omega), up1_self]
    · rw [up1_ne _ _ (by omega), up1_ne _ _ (by omega), up1_self]
    · rw [up1_ne _ _ (by omega), up1_self]
    · rw [up1_self]
  · have : dQ (D.1, D.2.1, (dC D + 1, fun c => if c = dC D then (a, b, mi, la) else dQ D c), D.2.2.2) c = dQ D c := if_neg e9
    rw [this]
    have := f10 c (by omega)
    refine ⟨?_, ?_, ?_, ?_⟩
    · rw [up1_ne _ _ (by omega), up1_ne _ _ (by omega), up1_ne _ _ (by omega), up1_ne _ _ (by omega)]; exact this.1
    · rw [up1_ne _ _ (by omega), up1_ne _ _ (by omega), up1_ne _ _ (by omega), up1_ne _ _ (by omega)]; exact this.2.1
    · rw [up1_ne _ _ (by omega), up1_ne _ _ (by omega), up1_ne _ _ (by omega), up1_ne _ _ (by omega)]; exact this.2.2.1
    · rw [up1_ne _ _ (by omega), up1_ne _ _ (by omega), up1_ne _ _ (by omega), up1_ne _ _ (by omega)]; exact this.2.2.2
end CCb
