/-! the reference reads calls -/
theorem nth_inr {t : TKN} {x : Nat} {f : TKN → Nat → DLR} : nth (.inr (t, x)) f = f t x := rfl
theorem nth_inl {e : Nat × Nat} {f : TKN → Nat → DLR} : nth (.inl e) f = .inl e := rfl
theorem wth_t {B : BT} {a : Nat} {t : TKN} {f : TKN → DLR} (h : wB B.1 t (wsOf a) = true) : wth B a t f = f (nx B t) := if_pos h
theorem wth_f {B : BT} {a : Nat} {t : TKN} {f : TKN → DLR} (h : ¬ wB B.1 t (wsOf a) = true) : wth B a t f = .inl (rf t 2) := if_neg h
section E2
variable {Ls : Nat} {xs : Nat → Int32} {S : mkS} {L : mkL} {R : mkR} {n : Nat × Nat} {B : BT}
theorem e_laysN (hs : St S R) {D : DR} {I : mkI} (hD : DfR D (I 199)) (hG : DG D) (he : dC D ≠ 10) (a b mi la : Nat) : ∃ J, F_X12_laysCall (some 199) (nI a) (nI b) (nI mi) (nI la) (mk S I L R n) = some (mk S J L R n) ∧ DfR (D.1, D.2.1, (dC D + 1, fun c => if c = dC D then (a, b, mi, la) else dQ D c), D.2.2.2) (J 199) ∧ kTl I J := by
  obtain ⟨⟨d1, d2, d3⟩, ⟨d4, d5⟩, d6, d7, d8⟩ := id hD
  obtain ⟨a0, ⟨a4, a5⟩, ⟨a6, a7⟩, a8⟩ := id hG
  obtain ⟨C, hC⟩ : ∃ C, C = dC D := ⟨_, rfl⟩
  have hC10 : C < 10 := by omega
  have d6' := d6
  rw [← hC] at d6'
  obtain ⟨J, hJ⟩ : ∃ J, J = up2 (up2 (up2 (up2 (up2 (up2 (up2 (up2 I 199 (51 + C) (nI a)) 199 (61 + C) (nI b)) 199 (71 + C) (nI mi)) 199 (81 + C) (nI la)) 199 (8 + C) 0) 199 (18 + C) (-1)) 199 (28 + C) (-1)) 199 7 (nI (C + 1)) := ⟨_, rfl⟩
  have kJ : kTl I J := fun y a => by rw [hJ]; simp only [up2_ne _ _ _ a]
  have jr : J 199 = up1 (up1 (up1 (up1 (up1 (up1 (up1 (up1 (I 199) (51 + C) (nI a)) (61 + C) (nI b)) (71 + C) (nI mi)) (81 + C) (nI la)) (8 + C) 0) (18 + C) (-1)) (28 + C) (-1)) 7 (nI (C + 1)) := by rw [hJ]; simp only [up2_row]
  have pJ : ∀ j, j ≠ 51 + C → j ≠ 61 + C → j ≠ 71 + C → j ≠ 81 + C → j ≠ 8 + C → j ≠ 18 + C → j ≠ 28 + C → j ≠ 7 → J 199 j = I 199 j := fun j b1 b2 b3 b4 b5 b6 b7 b8 => by rw [jr, up1_ne _ _ b8, up1_ne _ _ b7, up1_ne _ _ b6, up1_ne _ _ b5, up1_ne _ _ b4, up1_ne _ _ b3, up1_ne _ _ b2, up1_ne _ _ b1]
  have A : ∀ {I : mkI} {k : Nat}, k < 3205 → aI (mk S I L R n) (some 199) 0 (nI k) = some (I 199 k) := fun {I k} hk => ai_199 hs hk
  have W : ∀ {I : mkI} {x : Int32} {k : Nat}, k < 3205 → sI (mk S I L R n) (some 199) 0 (nI k) x = some (mk S (up2 I 199 k x) L R n) := fun {I x k} hk => si_199 hs hk
  refine ⟨J, ?_, ⟨⟨by rw [pJ _ (by omega) (by omega) (by omega) (by omega) (by omega) (by omega) (by omega) (by omega)]; exact d1, by rw [pJ _ (by omega) (by omega) (by omega) (by omega) (by omega) (by omega) (by omega) (by omega)]; exact d2, by rw [pJ _ (by omega) (by omega) (by omega) (by omega) (by omega) (by omega) (by omega) (by omega)]; exact d3⟩, ⟨by rw [pJ _ (by omega) (by omega) (by omega) (by omega) (by omega) (by omega) (by omega) (by omega)]; exact d4, fun k hk => ?_⟩, ⟨by rw [jr, up1_self, hC], fun c hc => ?_⟩, ⟨fun l hl => ?_, by rw [pJ _ (by omega) (by omega) (by omega) (by omega) (by omega) (by omega) (by omega) (by omega)]; exact d7.2.1, by rw [pJ _ (by omega) (by omega) (by omega) (by omega) (by omega) (by omega) (by omega) (by omega)]; exact d7.2.2⟩, fun w hw => ⟨?_, fun j hj => ?_⟩⟩, kJ⟩
  · unfold F_X12_laysCall
    rw [show aI (mk S I L R n) (some 199) 0 (7 : Int32) = _ from A (k := 7) (by omega), Option.bind_some, d6'.1, show (51 : Int32) + nI C = nI (51 + C) from nI_add 51 _, show (61 : Int32) + nI C = nI (61 + C) from nI_add 61 _, show (71 : Int32) + nI C = nI (71 + C) from nI_add 71 _, show (81 : Int32) + nI C = nI (81 + C) from nI_add 81 _, show (8 : Int32) + nI C = nI (8 + C) from nI_add 8 _, show (18 : Int32) + nI C = nI (18 + C) from nI_add 18 _, show (28 : Int32) + nI C = nI (28 + C) from nI_add 28 _]
    rw [W (by omega), Option.bind_some, W (by omega), Option.bind_some, W (by omega), Option.bind_some, W (by omega), Option.bind_some, W (by omega), Option.bind_some, W (by omega), Option.bind_some, W (by omega), Option.bind_some, show (7 : Int32) = nI 7 from rfl, A (by omega), Option.bind_some]
    simp only [up2_row]
    rw [up1_ne _ _ (show 7 ≠ 28 + C by omega), up1_ne _ _ (show 7 ≠ 18 + C by omega), up1_ne _ _ (show 7 ≠ 8 + C by omega), up1_ne _ _ (show 7 ≠ 81 + C by omega), up1_ne _ _ (show 7 ≠ 71 + C by omega), up1_ne _ _ (show 7 ≠ 61 + C by omega), up1_ne _ _ (show 7 ≠ 51 + C by omega), d6'.1, nI_1, W (by omega), Option.bind_some, ← hJ]
  · have hk' : k < dK D := hk
    rw [pJ _ (by omega) (by omega) (by omega) (by omega) (by omega) (by omega) (by omega) (by omega)]
    exact d5 k hk'
  · have hc' : c < C + 1 := by rw [hC]; exact hc
    show ((J 199 (51 + c) = nI (if c = dC D then (a, b, mi, la) else dQ D c).1 ∧ J 199 (61 + c) = nI (if c = dC D then (a, b, mi, la) else dQ D c).2.1 ∧ J 199 (71 + c) = nI (if c = dC D then (a, b, mi, la) else dQ D c).2.2.1 ∧ J 199 (81 + c) = nI (if c = dC D then (a, b, mi, la) else dQ D c).2.2.2) ∧ J 199 (8 + c) = 0 ∧ J 199 (18 + c) = -1 ∧ J 199 (28 + c) = -1)
    rw [← hC]
    by_cases e4 : c = C
    · subst e4
      rw [if_pos rfl, jr]
      refine ⟨⟨?_, ?_, ?_, ?_⟩, ?_, ?_, ?_⟩ <;> simp (disch := omega) only [up1_ne, up1_self]
    · rw [if_neg e4, pJ _ (by omega) (by omega) (by omega) (by omega) (by omega) (by omega) (by omega) (by omega), pJ _ (by omega) (by omega) (by omega) (by omega) (by omega) (by omega) (by omega) (by omega), pJ _ (by omega) (by omega) (by omega) (by omega) (by omega) (by omega) (by omega) (by omega), pJ _ (by omega) (by omega) (by omega) (by omega) (by omega) (by omega) (by omega) (by omega), pJ _ (by omega) (by omega) (by omega) (by omega) (by omega) (by omega) (by omega) (by omega), pJ _ (by omega) (by omega) (by omega) (by omega) (by omega) (by omega) (by omega) (by omega), pJ _ (by omega) (by omega) (by omega) (by omega) (by omega) (by omega) (by omega) (by omega)]
      exact d6'.2 c (by omega)
  · rw [pJ _ (by omega) (by omega) (by omega) (by omega) (by omega) (by omega) (by omega) (by omega)]; exact d7.1 l hl
  · rw [pJ _ (by omega) (by omega) (by omega) (by omega) (by omega) (by omega) (by omega) (by omega)]; exact (d8 w hw).1
  · have hj' : j < (dL D w).length := hj
    rw [pJ _ (by omega) (by omega) (by omega) (by omega) (by omega) (by omega) (by omega) (by omega)]; exact (d8 w hw).2 j hj'
/-- what follows 'to' -/
theorem e_call51F (hs : St S R) {I : mkI} (h : ¬ I 197 12 = 0) (v : Int32) : F_X12_readCall_51 (some 197) v (mk S I L R n) = some (mk S I L R n) := by
  unfold F_X12_readCall_51 F_X12_readCall_105
  rw [cv_197 hs, e_ltoldF hs h, b2_some, cv_197 hs, e_mWordF hs h, Option.bind_some, cv_197 hs, e_numF hs h, b2_some, cv_197 hs, e_mWordF hs h, Option.bind_some, cv_197 hs, e_numF hs h, b2_some, gi_197_12 hs, Option.bind_some, if_neg h]
theorem e_readCall (hs : St S R) {D : DR} {t : TKN} {I : mkI} (h : PN (Ls, xs, S, R) B t I) (hD : DfR D (I 199)) (hG : DG D) (hg : TKg B.1 B.2 t) : ∃ I', F_X12_readCall (some 197) (mk S I L R n) = some (mk S I' L R n) ∧ ETo (Ls, xs, S, R) B (callP B D t) I' ∧ kNl I I' := by
  obtain ⟨⟨d1, d2, d3⟩, d4, d6, d7, d8⟩ := id hD
  obtain ⟨⟨a1, a2, a3⟩, a4, ⟨a6, a7⟩, a8⟩ := id hG
  obtain ⟨-, -, -, s37, -, -, -, -, -, -, -, -, -, s38, s39, -⟩ := ws_same
  obtain ⟨I1, v1, q1, q2, q3⟩ := e_begins (L := L) (n := n) hs h hg (many := 7) (most := 10) (by omega) d6.1 a6 (by omega)
  unfold F_X12_readCall callP
  rw [cv_197 hs, show F_X12_begins (some 197) 7 10 (mk S I L R n) = _ from q1, b2_some]
  by_cases e : dC D = 10
  · rw [if_pos e] at q2 ⊢
    obtain ⟨rfl, q2⟩ := q2
    rw [if_pos rfl]
    exact ⟨I1, rfl, q2, q3.n⟩
  rw [if_neg e] at q2 ⊢
  obtain ⟨rfl, p1, k1⟩ := q2
  have g1 := (nx_g hg).1
  have t1 : I1 199 = I 199 := k1.1 _ (by decide)
  rw [if_neg (by decide)]
  obtain ⟨I2, v2, r1, r2, ⟨x0, hx0, hx0'⟩, r3⟩ := e_ltold (L := L) (n := n) hs p1 g1 (W := dW D) ⟨a1, a2⟩ (by rw [t1]; exact d2) (e_un1 g1)
  have o2 := numP_ok (lo := 0) (hi := dW D - 1) (un := -1) g1
  rw [cv_197 hs, r1, b2_some]
  cases e2 : numP B 0 (dW D - 1) (-1) (nx B t) with
  | inl q =>
    rw [e2] at r2
    have r2 : FlR q I2 := r2
    rw [cv_197 hs, e_mWordF hs r2.ne, Option.bind_some, gi_197_12 hs, Option.bind_some, if_neg r2.ne, e_call51F hs r2.ne]
    exact ⟨I2, rfl, r2, (q3.tr r3).n⟩
  | inr q =>
  obtain ⟨t2, x⟩ := q
  rw [e2] at r2 o2
  obtain ⟨rfl, hx, p2, k2⟩ := r2
  have t2' : I2 199 = I 199 := (k2.1 _ (by decide)).trans t1
  obtain ⟨I3, y1, y2, y3⟩ := e_mWord (L := L) (n := n) hs p2 o2.1 (a := 37) (by decide)
  rw [s37] at y2
  rw [nth_inr]
  rw [cv_197 hs, y1, Option.bind_some]
  by_cases e3 : ¬ wB B.1 t2 (wsOf 6) = true
  · rw [if_neg e3] at y2
    rw [wth_f e3]
    rw [gi_197_12 hs, Option.bind_some, if_neg y2.ne, e_call51F hs y2.ne]
    exact ⟨I3, rfl, y2, ((q3.tr r3).tr y3).n⟩
  have e3 := Classical.not_not.mp e3
  rw [if_pos e3] at y2
  rw [wth_t e3]
  obtain ⟨p3, k3⟩ := y2
  have g3 := (nx_g o2.1).1
  have t3 : I3 199 = I 199 := (k3.1 _ (by decide)).trans t2'
  have kk3 := (q3.tr r3).tr y3
  obtain ⟨z1, -, -, -, z5, -⟩ := rtk_all g3
  rw [gi_197_12 hs, Option.bind_some, p3.2.2.2.1, if_pos rfl, gi_197_10 hs, Option.bind_some, p3.2.2.1.2.2.1]
  by_cases e4 : (nx B t2).2.2 = 3 ∧ nI (nmV B.1 (nx B t2)) = nI x
  · obtain ⟨I4, u1, u2, u3⟩ := e_bl0 (L := L) (n := n) hs p3 g3 (k := 3) (by omega)
    rw [if_pos (show nI (rtk B.1 (nx B t2)) = 2 by rw [z5.mpr e4.1]; rfl), gi_197_11 hs, Option.bind_some, p3.2.2.1.2.2.2 e4.1, if_pos e4.2, cv_197 hs, show F_X12_blames (some 197) 3 (mk S I3 L R n) = _ from u1, Option.bind_some, e_call51F hs u2.ne]
    refine ⟨I4, rfl, ?_, (kk3.tr u3).n⟩
    have hn : numP B 0 (dW D - 1) (nI x) (nx B t2) = .inl (rf (nx B t2) 3) := by
      unfold numP
      rw [if_pos e4.1, if_neg (fun z => z.2 e4.2)]
    rw [hn, nth_inl]
    exact u2
  have h51 : (if nI (rtk B.1 (nx B t2)) = 2 then (gI (mk S I3 L R n) (some 197) 12 11).bind fun v39 => if v39 = nI x then (cV (mk S I3 L R n) (some 197) 12 (F_X12_blames (some 197) (3 : Int32) (mk S I3 L R n))).bind fun h48 => F_X12_readCall_51 (some 197) (nI x) h48 else F_X12_readCall_51 (some 197) (nI x) (mk S I3 L R n) else F_X12_readCall_51 (some 197) (nI x) (mk S I3 L R n)) = F_X12_readCall_51 (some 197) (nI x) (mk S I3 L R n) := by
    by_cases e5 : (nx B t2).2.2 = 3
    · rw [if_pos (show nI (rtk B.1 (nx B t2)) = 2 by rw [z5.mpr e5]; rfl), gi_197_11 hs, Option.bind_some, p3.2.2.1.2.2.2 e5, if_neg (fun z => e4 ⟨e5, z⟩)]
    · rw [if_neg (show ¬ nI (rtk B.1 (nx B t2)) = 2 from fun z => e5 (z5.mp ((nI_eq (b := 2) (by omega) (by omega)).mp z)))]
  rw [h51]
  unfold F_X12_readCall_51 F_X12_readCall_105
  obtain ⟨I4, v4, u1, u2, -, u3⟩ := e_ltold (L := L) (n := n) hs p3 g3 (W := dW D) ⟨a1, a2⟩ (by rw [t3]; exact d2) (un := nI x) (fun z1 z2 => e4 ⟨z1, z2⟩)
  have o4 := numP_ok (lo := 0) (hi := dW D - 1) (un := nI x) g3
  have kk4 := kk3.tr u3
  rw [cv_197 hs, u1, b2_some]
  cases e5 : numP B 0 (dW D - 1) (nI x) (nx B t2) with
  | inl q =>
    rw [e5] at u2
    have u2 : FlR q I4 := u2
    rw [cv_197 hs, e_mWordF hs u2.ne, Option.bind_some, cv_197 hs, e_numF hs u2.ne, b2_some, cv_197 hs, e_mWordF hs u2.ne, Option.bind_some, cv_197 hs, e_numF hs u2.ne, b2_some, gi_197_12 hs, Option.bind_some, if_neg u2.ne]
    exact ⟨I4, rfl, u2, kk4.n⟩
  | inr q =>
  obtain ⟨t4, b⟩ := q
  rw [e5] at u2 o4
  obtain ⟨rfl, hb, p4, k4⟩ := u2
  have t4' : I4 199 = I 199 := (k4.1 _ (by decide)).trans t3
  obtain ⟨I5, m1, m2, m3⟩ := e_mWord (L := L) (n := n) hs p4 o4.1 (a := 38) (by decide)
  have kk5 := kk4.tr m3
  rw [s38] at m2
  rw [nth_inr]
  rw [cv_197 hs, m1, Option.bind_some]
  by_cases e6 : ¬ wB B.1 t4 (wsOf 7) = true
  · rw [if_neg e6] at m2
    rw [wth_f e6]
    rw [cv_197 hs, e_numF hs m2.ne, b2_some, cv_197 hs, e_mWordF hs m2.ne, Option.bind_some, cv_197 hs, e_numF hs m2.ne, b2_some, gi_197_12 hs, Option.bind_some, if_neg m2.ne]
    exact ⟨I5, rfl, m2, kk5.n⟩
  have e6 := Classical.not_not.mp e6
  rw [if_pos e6] at m2
  rw [wth_t e6]
  obtain ⟨p5, k5⟩ := m2
  have g5 := (nx_g o4.1).1
  have t5 : I5 199 = I 199 := (k5.1 _ (by decide)).trans t4'
  obtain ⟨I6, v6, i1, i2, -, i3⟩ := e_num (L := L) (n := n) hs p5 g5 (lo := 0) (hi := 999) (by omega) (by omega) (e_un1 g5)
  have o6 := numP_ok (lo := 0) (hi := 999) (un := -1) g5
  have kk6 := kk5.tr i3
  rw [cv_197 hs, show F_X12_number (some 197) 0 999 (mk S I5 L R n) = _ from i1, b2_some]
  cases e7 : numP B 0 999 (-1) (nx B t4) with
  | inl q =>
    rw [e7] at i2
    have i2 : FlR q I6 := i2
    rw [cv_197 hs, e_mWordF hs i2.ne, Option.bind_some, cv_197 hs, e_numF hs i2.ne, b2_some, gi_197_12 hs, Option.bind_some, if_neg i2.ne]
    exact ⟨I6, rfl, i2, kk6.n⟩
  | inr q =>
  obtain ⟨t6, mi⟩ := q
  rw [e7] at i2 o6
  obtain ⟨rfl, hmi, p6, k6⟩ := i2
  have t6' : I6 199 = I 199 := (k6.1 _ (by decide)).trans t5
  obtain ⟨I7, j1, j2, j3⟩ := e_mWord (L := L) (n := n) hs p6 o6.1 (a := 39) (by decide)
  have kk7 := kk6.tr j3
  rw [s39] at j2
  rw [nth_inr]
  rw [cv_197 hs, j1, Option.bind_some]
  by_cases e8 : ¬ wB B.1 t6 (wsOf 8) = true
  · rw [if_neg e8] at j2
    rw [wth_f e8]
    rw [cv_197 hs, e_numF hs j2.ne, b2_some, gi_197_12 hs, Option.bind_some, if_neg j2.ne]
    exact ⟨I7, rfl, j2, kk7.n⟩
  have e8 := Classical.not_not.mp e8
  rw [if_pos e8] at j2
  rw [wth_t e8]
  obtain ⟨p7, k7⟩ := j2
  have g7 := (nx_g o6.1).1
  have t7 : I7 199 = I 199 := (k7.1 _ (by decide)).trans t6'
  obtain ⟨I8, v8, l1, l2, -, l3⟩ := e_num (L := L) (n := n) hs p7 g7 (lo := 1) (hi := 99) (by omega) (by omega) (e_un1 g7)
  have kk8 := kk7.tr l3
  rw [cv_197 hs, show F_X12_number (some 197) 1 99 (mk S I7 L R n) = _ from l1, b2_some]
  cases e9 : numP B 1 99 (-1) (nx B t6) with
  | inl q =>
    rw [e9] at l2
    have l2 : FlR q I8 := l2
    rw [nth_inl, gi_197_12 hs, Option.bind_some, if_neg l2.ne]
    exact ⟨I8, rfl, l2, kk8.n⟩
  | inr q =>
  obtain ⟨t8, la⟩ := q
  rw [e9] at l2
  obtain ⟨rfl, hla, p8, k8⟩ := l2
  have t8' : I8 199 = I 199 := (k8.1 _ (by decide)).trans t7
  obtain ⟨J, w1, w2, w3⟩ := e_laysN (L := L) (n := n) hs (I := I8) (by rw [t8']; exact hD) hG e x b mi la
  rw [gi_197_12 hs, Option.bind_some, p8.2.2.2.1, if_pos rfl, gr_197_1 hs, Option.bind_some, w1, Option.bind_some]
  exact ⟨J, rfl, ⟨p8.tl w3, w2⟩, kk8.n.tr w3.n⟩
end E2
