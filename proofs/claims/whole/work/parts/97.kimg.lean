/-! image: heaps that grow -/
section GR
variable {S S' : mkS} {I I' : mkI} {L L' : mkL} {R R' : mkR} {n n' : Nat × Nat}
theorem mk_nJ {N : Nat} (hN : N < 2147483648) (h1 : n.1 + 1 ≤ mm_capC) (h2 : n.2 + N ≤ mm_capS) : nI_ (mk S I L R n) 0 (nI N) = some (some n.1, mk (up1 S n.1 (1, N)) (up1 I n.1 (fun _ => 0)) (up1 L n.1 (fun _ => 0)) (up1 R n.1 (fun _ => none)) (n.1 + 1, n.2 + N)) := by
  unfold nI_
  have e : (nI N).toNatClampNeg = N := by
    show (nI N).toInt.toNat = N
    rw [nI_toInt hN]; omega
  rw [if_neg (nI_pos hN), e]
  exact mk_hN (1, N) (fun _ => 0) (fun _ => 0) (fun _ => none) rfl h1 h2
theorem mk_nBd (h1 : n.1 + 1 ≤ mm_capC) (h2 : n.2 + 3 ≤ mm_capS) : nO (mk S I L R n) 0 [.null, .null, .null] 3 = some (some n.1, mk (up1 S n.1 (9, 0)) (up1 I n.1 (fun _ => 0)) (up1 L n.1 (fun _ => 0)) (up1 R n.1 (fun _ => none)) (n.1 + 1, n.2 + 3)) := mk_hN (9, 0) (fun _ => 0) (fun _ => 0) (fun _ => none) rfl h1 h2
theorem mk_nCo (h1 : n.1 + 1 ≤ mm_capC) (h2 : n.2 + 6 ≤ mm_capS) : nO (mk S I L R n) 1 [.null, .int 0, .null, .null, .null, .null] 6 = some (some n.1, mk (up1 S n.1 (10, 0)) (up1 I n.1 (fun _ => 0)) (up1 L n.1 (fun _ => 0)) (up1 R n.1 (fun _ => none)) (n.1 + 1, n.2 + 6)) := mk_hN (10, 0) (fun _ => 0) (fun _ => 0) (fun _ => none) rfl h1 h2
theorem mk_nDd (h1 : n.1 + 1 ≤ mm_capC) (h2 : n.2 + 3 ≤ mm_capS) : nO (mk S I L R n) 3 [.null, .int 0, .int 0] 3 = some (some n.1, mk (up1 S n.1 (12, 0)) (up1 I n.1 (fun _ => 0)) (up1 L n.1 (fun _ => 0)) (up1 R n.1 (fun _ => none)) (n.1 + 1, n.2 + 3)) := mk_hN (12, 0) (fun _ => 0) (fun _ => 0) (fun _ => none) rfl h1 h2
/-- what grows: below z all shapes, rows and fields stay -/
def Gr (z : Nat) (S S' : mkS) (I I' : mkI) (L L' : mkL) (R R' : mkR) : Prop := ∀ a, a < z → S' a = S a ∧ I' a = I a ∧ L' a = L a ∧ R' a = R a
theorem Gr.rf {z : Nat} : Gr z S S I I L L R R := fun _ _ => ⟨rfl, rfl, rfl, rfl⟩
theorem lt_sh {z a : Nat} (hz : ∀ a, z ≤ a → S a = (0, 0)) (h : S a ≠ (0, 0)) : a < z := Nat.lt_of_not_le (fun q => h (hz a q))
theorem CLaw.gr {z : Nat} {r : Option Nat} {ops : List Nat} (hz : ∀ a, z ≤ a → S a = (0, 0)) (g : Gr z S S' I I' L L' R R') (h : CLaw S R I r ops) : CLaw S' R' I' r ops := by
  rcases h with h | ⟨h1, a, h2, h3, ⟨l1, l2, l3, l4, l5, l6⟩, h5⟩
  · exact .inl h
  · have z1 := g a (lt_sh hz (by rw [l1]; decide))
    have z2 := g (a + 1) (lt_sh hz (by rw [l4]; simp))
    have z3 := g (a + 2) (lt_sh hz (by rw [l5]; decide))
    refine .inr ⟨h1, a, h2, h3, ⟨by rw [z1.1]; exact l1, by rw [z1.2.2.2]; exact l2, by rw [z1.2.2.2]; exact l3, by rw [z2.1]; exact l4, by rw [z3.1]; exact l5, l6⟩, by rw [z2.2.1]; exact h5⟩
theorem CPlan.gr {z : Nat} {P : PL} {p : Nat} (hz : ∀ a, z ≤ a → S a = (0, 0)) (g : Gr z S S' I I' L L' R R') (h : CPlan P S R I p) : CPlan P S' R' I' p := by
  obtain ⟨s1, s2, s3, ⟨ra, r1, r2, r3, r4⟩, ⟨la, l1, l2, l3, l4⟩, c1, c2⟩ := h
  have z1 := g p (lt_sh hz (by rw [s1]; decide))
  have z2 := g ra (lt_sh hz (by rw [r3]; decide))
  have z3 := g la (lt_sh hz (by rw [l3]; decide))
  unfold CPlan
  rw [z1.1, z1.2.1, z1.2.2.2]
  exact ⟨s1, s2, s3, ⟨ra, r1, r2, by rw [z2.1]; exact r3, by rw [z2.2.1]; exact r4⟩, ⟨la, l1, l2, by rw [z3.1]; exact l3, by rw [z3.2.1]; exact l4⟩, c1.gr hz g, c2.gr hz g⟩
theorem CW.gr {z : Nat} {w : WD} {b ca co dd rw' : Nat} (hz : ∀ a, z ≤ a → S a = (0, 0)) (g : Gr z S S' I I' L L' R R') (h : CW w S R I b ca co dd rw') : CW w S' R' I' b ca co dd rw' := by
  obtain ⟨⟨b1, b2, b3, b4, b5⟩, ⟨p, h2, h3⟩, h4, ⟨d1, d2, d3, d4, d5⟩, h6⟩ := h
  have z1 := g b (lt_sh hz (by rw [b1]; decide))
  have z2 := g ca (lt_sh hz (by rw [b4]; decide))
  have z3 := g dd (lt_sh hz (by rw [d1]; decide))
  have z4 := g rw' (lt_sh hz (by rw [d4]; decide))
  exact ⟨⟨by rw [z1.1]; exact b1, by rw [z1.2.2.2]; exact b2, by rw [z1.2.2.2]; exact b3, by rw [z2.1]; exact b4, b5⟩, ⟨p, by rw [z1.2.2.2]; exact h2, h3.gr hz g⟩, fun j hj => by rw [z2.2.1]; exact h4 j hj, ⟨by rw [z3.1]; exact d1, d2, by rw [z3.2.2.2]; exact d3, by rw [z4.1]; exact d4, d5⟩, h6.eq z3.2.1 z4.2.1⟩
/-- the class's part on a heap that has grown -/
theorem InvC.gr {tb : Nat → Nat} {tn : Nat} {fk fp : Int32} {w : WD} {tr : TR} {im : IM} {k k' : Nat} (h : InvC tb tn fk fp w tr im k S I L R n) (g : Gr n.1 S S' I I' L L' R R') (hw : LW S') (h1 : ∀ a, n'.1 ≤ a → S' a = (0, 0)) (h2 : n.1 ≤ n'.1) (h3 : n'.1 + 40 * k' ≤ mm_capC) (h4 : n'.2 + 8000 * k' ≤ mm_capS) : InvC tb tn fk fp w tr im k' S' I' L' R' n' := by
  obtain ⟨⟨s1, s2, s3, s4, s5, s6⟩, ⟨t1, t2, t3⟩, ⟨u1, u2⟩, v1, v2, v3, v4⟩ := h
  have lo : ∀ a, a < 221 → S' a = S a ∧ I' a = I a ∧ L' a = L a ∧ R' a = R a := fun a ha => g a (by omega)
  have keyS : ∀ q ∈ stS, q.1 < 221 := by decide +kernel
  have keyR : ∀ q ∈ stR, q.1 < 221 := by decide +kernel
  refine ⟨⟨⟨fun q hq => by rw [(lo _ (keyS q hq)).1]; exact s1.1 q hq, fun q hq => by rw [(lo _ (keyR q hq)).2.2.2]; exact s1.2 q hq⟩, hw, h1, by omega, h3, h4⟩, ⟨t1, by rw [(lo _ (by decide)).2.1]; exact t2, by rw [(lo _ (by decide)).2.1]; exact t3⟩, by rw [(lo _ (by decide)).2.1]; exact ⟨u1, u2⟩, v1.gr s3 g, fun t ht => ?_, ⟨?_, fun i hi => ?_⟩, ?_⟩
  · have := v2 t ht
    rw [(lo _ (by omega)).2.1, (lo _ (by omega)).2.2.1]
    exact this
  · rw [(lo 132 (by decide)).2.2.2]; exact v3.1
  · have := v3.2 i hi
    revert this
    rw [(lo 132 (by decide)).2.2.2, (lo 133 (by decide)).2.2.2]
    cases im i with
    | none => exact id
    | some w =>
      rintro ⟨a, a1, a2, a3, a4⟩
      exact ⟨a, a1, a2, a3, a4.gr s3 g⟩
  · rcases v4 with v4 | ⟨p, P, p1, p2, p3, p4⟩
    · exact .inl (by rw [(lo 157 (by decide)).2.2.2]; exact v4)
    · refine .inr ⟨p, P, by rw [(lo 157 (by decide)).2.2.2]; exact p1, p2, p3.gr s3 g, ?_⟩
      unfold PRes at *
      rw [(lo 157 (by decide)).2.1, (lo 159 (by decide)).2.1, (lo 160 (by decide)).2.1]
      exact p4
end GR
section AL
variable {S : mkS} {I : mkI} {L : mkL} {R : mkR} {z s : Nat}
theorem nJ_z {N : Nat} (hN : N < 2147483648) (h1 : z + 1 ≤ mm_capC) (h2 : s + N ≤ mm_capS) : nI_ (mk S I L R (z, s)) 0 (nI N) = some (some z, mk (up1 S z (1, N)) (up1 I z (fun _ => 0)) (up1 L z (fun _ => 0)) (up1 R z (fun _ => none)) (z + 1, s + N)) := mk_nJ hN h1 h2
/-- between two heaps: below z all shapes stay, and all else but b's; m new ones, none of them a Law -/
def Al (z m b : Nat) (S S' : mkS) (I I' : mkI) (L L' : mkL) (R R' : mkR) : Prop := (∀ a, a < z → S' a = S a) ∧ (∀ a, a < z → a ≠ b → I' a = I a ∧ L' a = L a ∧ R' a = R a) ∧ (∀ a, z + m ≤ a → S' a = S a) ∧ ∀ a, z ≤ a → a < z + m → S' a ≠ (14, 0)
theorem al_course {b : Nat} (hb : S b = (10, 0)) (hb2 : 128 ≤ b) (hz : b < z) (h1 : z + 5 ≤ mm_capC) (h2 : s + 32 ≤ mm_capS) : ∃ S' I' L' R', F_X1_init (some b) (mk S I L R (z, s)) = some (mk S' I' L' R' (z + 5, s + 32)) ∧ Al z 5 b S S' I I' L L' R R' := by
  have s1 : up1 S z (1, 10) b = (10, 0) := by rw [up1_ne _ _ (by omega)]; exact hb
  have s2 : up1 (up1 S z (1, 10)) (z + 1) (1, 8) b = (10, 0) := by rw [up1_ne _ _ (by omega)]; exact s1
  have s3 : up1 (up1 (up1 S z (1, 10)) (z + 1) (1, 8)) (z + 1 + 1) (1, 3) b = (10, 0) := by rw [up1_ne _ _ (by omega)]; exact s2
  have s4 : up1 (up1 (up1 (up1 S z (1, 10)) (z + 1) (1, 8)) (z + 1 + 1) (1, 3)) (z + 1 + 1 + 1) (1, 8) b = (10, 0) := by rw [up1_ne _ _ (by omega)]; exact s3
  have s5 : up1 (up1 (up1 (up1 (up1 S z (1, 10)) (z + 1) (1, 8)) (z + 1 + 1) (1, 3)) (z + 1 + 1 + 1) (1, 8)) (z + 1 + 1 + 1 + 1) (1, 3) b = (10, 0) := by rw [up1_ne _ _ (by omega)]; exact s4
  have k10 : ∀ {S : mkS} {I : mkI} {L : mkL} {R : mkR} {z s : Nat}, z + 1 ≤ mm_capC → s + 10 ≤ mm_capS → nI_ (mk S I L R (z, s)) 0 (10 : Int32) = some (some z, mk (up1 S z (1, 10)) (up1 I z (fun _ => 0)) (up1 L z (fun _ => 0)) (up1 R z (fun _ => none)) (z + 1, s + 10)) := fun a b => nJ_z (N := 10) (by decide) a b
  have k8 : ∀ {S : mkS} {I : mkI} {L : mkL} {R : mkR} {z s : Nat}, z + 1 ≤ mm_capC → s + 8 ≤ mm_capS → nI_ (mk S I L R (z, s)) 0 (8 : Int32) = some (some z, mk (up1 S z (1, 8)) (up1 I z (fun _ => 0)) (up1 L z (fun _ => 0)) (up1 R z (fun _ => none)) (z + 1, s + 8)) := fun a b => nJ_z (N := 8) (by decide) a b
  have k3 : ∀ {S : mkS} {I : mkI} {L : mkL} {R : mkR} {z s : Nat}, z + 1 ≤ mm_capC → s + 3 ≤ mm_capS → nI_ (mk S I L R (z, s)) 0 (3 : Int32) = some (some z, mk (up1 S z (1, 3)) (up1 I z (fun _ => 0)) (up1 L z (fun _ => 0)) (up1 R z (fun _ => none)) (z + 1, s + 3)) := fun a b => nJ_z (N := 3) (by decide) a b
  refine ⟨up1 (up1 (up1 (up1 (up1 S z (1, 10)) (z + 1) (1, 8)) (z + 1 + 1) (1, 3)) (z + 1 + 1 + 1) (1, 8)) (z + 1 + 1 + 1 + 1) (1, 3), (up1 (up1 (up1 (up1 (up2 (up1 I z (fun _ => 0)) b 1 0) (z + 1) (fun _ => 0)) (z + 1 + 1) (fun _ => 0)) (z + 1 + 1 + 1) (fun _ => 0)) (z + 1 + 1 + 1 + 1) (fun _ => 0)), (up1 (up1 (up1 (up1 (up1 L z (fun _ => 0)) (z + 1) (fun _ => 0)) (z + 1 + 1) (fun _ => 0)) (z + 1 + 1 + 1) (fun _ => 0)) (z + 1 + 1 + 1 + 1) (fun _ => 0)), (up2 (up1 (up2 (up1 (up2 (up1 (up2 (up1 (up2 (up1 R z (fun _ => none)) b 0 (some z)) (z + 1) (fun _ => none)) b 2 (some (z + 1))) (z + 1 + 1) (fun _ => none)) b 3 (some (z + 1 + 1))) (z + 1 + 1 + 1) (fun _ => none)) b 4 (some (z + 1 + 1 + 1))) (z + 1 + 1 + 1 + 1) (fun _ => none)) b 5 (some (z + 1 + 1 + 1 + 1))), ?_, ?_⟩
  · unfold F_X1_init
    rw [Option.bind_some, k10 (by omega) (by omega), b2_some, mk_pR (c := 1) (by rw [s1]) rfl hb2, Option.bind_some, mk_pI (c := 1) (by rw [s1]) rfl hb2, Option.bind_some, k8 (by omega) (by omega), b2_some, mk_pR (c := 1) (by rw [s2]) rfl hb2, Option.bind_some, k3 (by omega) (by omega), b2_some, mk_pR (c := 1) (by rw [s3]) rfl hb2, Option.bind_some, k8 (by omega) (by omega), b2_some, mk_pR (c := 1) (by rw [s4]) rfl hb2, Option.bind_some, k3 (by omega) (by omega), b2_some, mk_pR (c := 1) (by rw [s5]) rfl hb2, Option.bind_some]
  · refine ⟨fun a ha => ?_, fun a ha hab => ⟨?_, ?_, ?_⟩, fun a ha => ?_, fun a ha hb => ?_⟩
    · simp (disch := omega) only [up1_ne]
    · simp (disch := omega) only [up1_ne, up2_ne]
    · simp (disch := omega) only [up1_ne, up2_ne]
    · simp (disch := omega) only [up1_ne, up2_ne]
    · simp (disch := omega) only [up1_ne]
    · rcases (show a = z ∨ a = z + 1 ∨ a = z + 1 + 1 ∨ a = z + 1 + 1 + 1 ∨ a = z + 1 + 1 + 1 + 1 by omega) with rfl | rfl | rfl | rfl | rfl <;> simp (disch := omega) [up1_ne, up1_self]
theorem al_board {b : Nat} {pl : Option Nat} (hb : S b = (9, 0)) (hb2 : 128 ≤ b) (hz : b < z) (h1 : z + 7 ≤ mm_capC) (h2 : s + 119 ≤ mm_capS) : ∃ S' I' L' R', F_X0_init (some b) pl (mk S I L R (z, s)) = (cV (mk S' I' L' R' (z + 7, s + 119)) (some b) 0 (F_X0_clear (some b) (mk S' I' L' R' (z + 7, s + 119)))) ∧ Al z 7 b S S' I I' L L' R R' ∧ BdS S' R' b z (z + 1) := by
  have k81 : nI_ (mk S I L R (z, s)) 0 (81 : Int32) = some (some z, mk (up1 S z (1, 81)) (up1 I z (fun _ => 0)) (up1 L z (fun _ => 0)) (up1 R z (fun _ => none)) (z + 1, s + 81)) := nJ_z (N := 81) (by decide) (by omega) (by omega)
  have s1 : up1 S z (1, 81) b = (9, 0) := by rw [up1_ne _ _ (by omega)]; exact hb
  have s2 : up1 (up1 S z (1, 81)) (z + 1) (10, 0) b = (9, 0) := by rw [up1_ne _ _ (by omega)]; exact s1
  obtain ⟨S1, I1, L1, R1, q1, q2, q3, q4, q5⟩ := al_course (S := up1 (up1 S z (1, 81)) (z + 1) (10, 0)) (I := up1 (up1 I z (fun _ => 0)) (z + 1) (fun _ => 0)) (L := up1 (up1 L z (fun _ => 0)) (z + 1) (fun _ => 0)) (R := up1 (up2 (up1 R z (fun _ => none)) b 0 (some z)) (z + 1) (fun _ => none)) (b := z + 1) (z := z + 1 + 1) (s := s + 81 + 6) (up1_self _ _ _) (by omega) (by omega) (by omega) (by omega)
  have sb : S1 b = (9, 0) := by rw [q2 b (by omega)]; exact s2
  have sz : S1 z = (1, 81) := by rw [q2 z (by omega), up1_ne _ _ (by omega), up1_self]
  have rb : R1 b 0 = some z := by rw [(q3 b (by omega) (by omega)).2.2, up1_ne _ _ (by omega), up2_self]
  refine ⟨S1, I1, L1, up2 (up2 R1 b 1 (some (z + 1))) b 2 pl, ?_, ⟨fun a ha => ?_, fun a ha hab => ⟨?_, ?_, ?_⟩, fun a ha => ?_, fun a ha hb => ?_⟩, ⟨sb, ?_, ?_, sz, hb2, by omega⟩⟩
  · unfold F_X0_init
    rw [Option.bind_some, k81, b2_some, mk_pR (c := 0) (by rw [s1]) rfl hb2, Option.bind_some, mk_nCo (by show z + 1 + 1 ≤ _; omega) (by show s + 81 + 6 ≤ _; omega), b2_some, Option.bind_some, q1, Option.bind_some, mk_pR (c := 0) (by rw [sb]) rfl hb2, Option.bind_some, mk_pR (c := 0) (by rw [sb]) rfl hb2, Option.bind_some]
    exact Option.bind_fun_some _
  · rw [q2 a (by omega)]; simp (disch := omega) only [up1_ne]
  · rw [(q3 a (by omega) (by omega)).1]; simp (disch := omega) only [up1_ne, up2_ne]
  · rw [(q3 a (by omega) (by omega)).2.1]; simp (disch := omega) only [up1_ne, up2_ne]
  · rw [up2_ne _ _ _ hab, up2_ne _ _ _ hab, (q3 a (by omega) (by omega)).2.2]; simp (disch := omega) only [up1_ne, up2_ne]
  · rw [q4 a (by omega)]; simp (disch := omega) only [up1_ne]
  · by_cases e : a < z + 2
    · rw [q2 a (by omega)]
      rcases (show a = z ∨ a = z + 1 by omega) with rfl | rfl
      · rw [up1_ne _ _ (by omega), up1_self]; decide
      · rw [up1_self]; decide
    · exact q5 a (by omega) (by omega)
  · rw [up2_row, up1_ne _ _ (by decide), up2_row, up1_ne _ _ (by decide)]; exact rb
  · rw [up2_row, up1_ne _ _ (by decide), up2_self]
theorem al_deeds {b : Nat} (hb : S b = (12, 0)) (hb2 : 128 ≤ b) (hz : b < z) (h1 : z + 1 ≤ mm_capC) (h2 : s + 810 ≤ mm_capS) : ∃ S' I' L' R', F_X3_init (some b) (mk S I L R (z, s)) = some (mk S' I' L' R' (z + 1, s + 810)) ∧ Al z 1 b S S' I I' L L' R R' ∧ DdS S' R' b z := by
  have k810 : nI_ (mk S I L R (z, s)) 0 (810 : Int32) = some (some z, mk (up1 S z (1, 810)) (up1 I z (fun _ => 0)) (up1 L z (fun _ => 0)) (up1 R z (fun _ => none)) (z + 1, s + 810)) := nJ_z (N := 810) (by decide) (by omega) (by omega)
  have s1 : up1 S z (1, 810) b = (12, 0) := by rw [up1_ne _ _ (by omega)]; exact hb
  refine ⟨up1 S z (1, 810), up2 (up2 (up1 I z (fun _ => 0)) b 1 0) b 2 0, up1 L z (fun _ => 0), up2 (up1 R z (fun _ => none)) b 0 (some z), ?_, ⟨fun a ha => ?_, fun a ha hab => ⟨?_, ?_, ?_⟩, fun a ha => ?_, fun a ha hb => ?_⟩, ⟨s1, hb2, up2_self _ _ _ _, up1_self _ _ _, by omega⟩⟩
  · unfold F_X3_init
    rw [Option.bind_some, k810, b2_some, mk_pR (c := 3) (by rw [s1]) rfl hb2, Option.bind_some, mk_pI (c := 3) (by rw [s1]) rfl hb2, Option.bind_some, mk_pI (c := 3) (by rw [s1]) rfl hb2, Option.bind_some]
  · simp (disch := omega) only [up1_ne]
  · simp (disch := omega) only [up1_ne, up2_ne]
  · simp (disch := omega) only [up1_ne, up2_ne]
  · simp (disch := omega) only [up1_ne, up2_ne]
  · simp (disch := omega) only [up1_ne]
  · have : a = z := by omega
    subst this
    rw [up1_self]; intro q; cases q
end AL
section CLR
variable {S : mkS} {I : mkI} {L : mkL} {R : mkR} {n : Nat × Nat}
theorem c_clrL {b ca co : Nat} (hb : BdS S R b ca co) : ∀ (r g l : Nat) (I : mkI), l + r = 8 → r < g → ∃ I', F_X0_clear_10 g (some b) (nI l) (mk S I L R n) = some (mk S I' L R n) ∧ (∀ x, x ≠ ca → I' x = I x) ∧ ∀ j, I' ca j = if 3 + l ≤ j ∧ j < 11 then -1 else I ca j := by
  intro r
  induction r with
  | zero =>
    intro g l I hl hg
    obtain ⟨g, rfl⟩ : ∃ y, g = y + 1 := ⟨g - 1, by omega⟩
    have : l = 8 := by omega
    subst this
    refine ⟨I, ?_, fun _ _ => rfl, fun j => by rw [if_neg (by omega)]⟩
    simp only [F_X0_clear_10]
    rw [if_pos (by decide)]
  | succ r ih =>
    intro g l I hl hg
    obtain ⟨g, rfl⟩ : ∃ y, g = y + 1 := ⟨g - 1, by omega⟩
    obtain ⟨I', q1, q2, q3⟩ := ih g (l + 1) (up2 I ca (3 + l) (-1)) (by omega) (by omega)
    refine ⟨I', ?_, fun x hx => by rw [q2 x hx, up2_ne _ _ _ hx], fun j => ?_⟩
    · simp only [F_X0_clear_10]
      rw [if_neg (ge_li 8 (by omega) (by decide)), mk_gR (c := 0) (by rw [hb.1]) rfl, Option.bind_some, hb.2.1, show (3 : Int32) + nI l = nI (3 + l) from nI_add 3 l, mk_sJ0 hb.2.2.2.1 (by omega) (by decide) hb.2.2.2.2.2, Option.bind_some, nI_1]
      exact q1
    · rw [q3 j, up2_row]
      by_cases e : j = 3 + l
      · subst e
        rw [if_neg (by omega), up1_self, if_pos (by omega)]
      · rw [up1_ne _ _ e]
        by_cases e2 : 3 + (l + 1) ≤ j ∧ j < 11
        · rw [if_pos e2, if_pos (by omega)]
        · rw [if_neg e2, if_neg (by omega)]
theorem c_clear {b ca co : Nat} (hb : BdS S R b ca co) (I : mkI) : ∃ I', F_X0_clear (some b) (mk S I L R n) = some (mk S I' L R n) ∧ (∀ x, x ≠ ca → I' x = I x) ∧ ∀ j, j < 81 → I' ca j = if 3 ≤ j ∧ j < 11 then -1 else 0 := by
  obtain ⟨I', q1, q2, q3⟩ := c_clrL (L := L) (n := n) hb 8 mm_N 0 (up1 I ca (fun j => if 0 ≤ j ∧ j < 81 then (0 : Int32) else I ca j)) (by omega) (by unfold mm_N; decide)
  refine ⟨I', ?_, fun x hx => by rw [q2 x hx, up1_ne _ _ hx], fun j hj => ?_⟩
  · unfold F_X0_clear
    rw [mk_gR (c := 0) (by rw [hb.1]) rfl, Option.bind_some, hb.2.1, c_fill hb.2.2.2.1 (by decide) hb.2.2.2.2.2, Option.bind_some]
    exact q1
  · rw [q3 j, up1_self, if_pos (show 0 ≤ j ∧ j < 81 from ⟨Nat.zero_le _, hj⟩)]
end CLR
def imUp (im : IM) (i : Nat) (w : WD) : IM := fun j => if j = i then some w else im j
theorem InvC.im {tb : Nat → Nat} {tn : Nat} {fk fp : Int32} {w w' : WD} {tr : TR} {im : IM} {k : Nat} {S : mkS} {I I' : mkI} {L : mkL} {R R' : mkR} {n : Nat × Nat} {i z : Nat} (h : InvC tb tn fk fp w tr im k S I L R n) (hz : 221 ≤ z) (hd1 : ∀ j, j < 3 → j ≠ i → R 132 j ≠ some z) (s0 : S z = (9, 0)) (s1 : S (z + 1) = (1, 81)) (s8 : S (z + 8) = (12, 0)) (s9 : S (z + 9) = (1, 810)) (hI : ∀ x, x ≠ z + 1 → x ≠ z + 8 → x ≠ z + 9 → I' x = I x) (hR : ∀ x, x ≠ z → x ≠ 132 → x ≠ 133 → R' x = R x) (hb : ∀ j, j < 3 → R' 132 j = if j = i then some z else R 132 j) (hd : ∀ j, j < 3 → R' 133 j = if j = i then some (z + 8) else R 133 j) (hw : CW w' S R' I' z (z + 1) (z + 2) (z + 8) (z + 9)) : InvC tb tn fk fp w tr (imUp im i w') k S I' L R' n := by
  obtain ⟨⟨q1, q2, q3, q4, q5, q6⟩, ⟨t1, t2, t3⟩, ⟨u1, u2⟩, v1, v2, v3, v4⟩ := h
  have lo : ∀ a, a < 221 → I' a = I a := fun a ha => hI a (by omega) (by omega) (by omega)
  have lR : ∀ a, a < 221 → a ≠ 132 → a ≠ 133 → R' a = R a := fun a ha h1 h2 => hR a (by omega) h1 h2
  have fI : ∀ x, pa x → fineA S x → I' x = I x := fun x _ hx => by
    refine hI x ?_ ?_ ?_
    · intro e; subst e
      unfold fineA at hx
      rw [s1, Nat.add_sub_cancel, s0] at hx
      revert hx; simp
    · intro e; subst e
      unfold fineA at hx
      rw [s8] at hx
      revert hx; simp
    · intro e; subst e
      unfold fineA at hx
      rw [s9, show z + 9 - 1 = z + 8 by omega, s8] at hx
      revert hx; simp
  have fR : ∀ x, S x = (17, 0) ∨ S x = (14, 0) → R' x = R x := fun x hx => by
    refine hR x ?_ ?_ ?_
    · intro e; subst e; rw [s0] at hx; simp at hx
    · intro e; subst e; rw [S_132 q1] at hx; simp at hx
    · intro e; subst e; rw [S_133 q1] at hx; simp at hx
  refine ⟨⟨⟨q1.1, fun q hq => ?_⟩, q2, q3, q4, q5, q6⟩, ⟨t1, by rw [lo _ (by decide)]; exact t2, by rw [lo _ (by decide)]; exact t3⟩, by rw [lo _ (by decide)]; exact ⟨u1, u2⟩, v1.kk (lo _ (by decide)) (lo _ (by decide)) (lo _ (by decide)) fI fR (lR _ (by decide) (by decide) (by decide)) (lR _ (by decide) (by decide) (by decide)), fun t ht => ?_, ⟨fun a b c ha hb1 h1 h2 => ?_, fun j hj => ?_⟩, ?_⟩
  · have keyR : ∀ q ∈ stR, q.1 < 221 ∧ q.1 ≠ 132 ∧ q.1 ≠ 133 := by decide +kernel
    obtain ⟨k1, k2, k3⟩ := keyR q hq
    rw [lR _ k1 k2 k3]; exact q1.2 q hq
  · have := v2 t ht
    rw [lo _ (by omega)]
    exact this
  · rw [hb a ha] at h1
    rw [hb b hb1] at h2
    by_cases ea : a = i
    · by_cases eb : b = i
      · rw [ea, eb]
      · rw [if_pos ea] at h1
        rw [if_neg eb] at h2
        exact absurd (h2.trans h1.symm) (hd1 b hb1 eb)
    · by_cases eb : b = i
      · rw [if_pos eb] at h2
        rw [if_neg ea] at h1
        exact absurd (h1.trans h2.symm) (hd1 a ha ea)
      · rw [if_neg ea] at h1
        rw [if_neg eb] at h2
        exact v3.1 a b c ha hb1 h1 h2
  · unfold imUp
    by_cases e : j = i
    · rw [if_pos e]
      exact ⟨z, by rw [hb j hj, if_pos e], by rw [hd j hj, if_pos e], hz, hw⟩
    · rw [if_neg e]
      have := v3.2 j hj
      have hne := hd1 j hj e
      revert this
      rw [hb j hj, hd j hj, if_neg e, if_neg e]
      cases him : im j with
      | none => exact id
      | some w0 =>
        rintro ⟨a, a1, a2, a3, a4⟩
        have hza : a ≠ z := fun q => hne (by rw [a1, q])
        obtain ⟨⟨b1, b2, b3, b4, b5, b6⟩, -, -, ⟨d1, d2, d3, d4, d5⟩, -⟩ := id a4
        have y1 : a + 1 ≠ z + 8 := fun q => by rw [q, s8] at b4; simp at b4
        have y2 : a + 1 ≠ z + 9 := fun q => by rw [q, s9] at b4; simp at b4
        have y3 : a + 8 ≠ z + 1 := fun q => by rw [q, s1] at d1; simp at d1
        have y4 : a + 8 ≠ z + 9 := fun q => by rw [q, s9] at d1; simp at d1
        have y5 : a + 9 ≠ z + 1 := fun q => by rw [q, s1] at d4; simp at d4
        have y6 : a + 9 ≠ z + 8 := fun q => by rw [q, s8] at d4; simp at d4
        have y7 : a + 8 ≠ z := fun q => by rw [q, s0] at d1; simp at d1
        refine ⟨a, a1, a2, a3, a4.kk (hI _ (by omega) y1 y2) (hI _ y3 (by omega) y4) (hI _ y5 y6 (by omega)) fI fR (hR _ hza ?_ ?_) (hR _ y7 ?_ ?_)⟩
        · show a ≠ 132; omega
        · show a ≠ 133; omega
        · show a + 8 ≠ 132; omega
        · show a + 8 ≠ 133; omega
  · rcases v4 with v4 | ⟨p, P, p1, p2, p3, p4⟩
    · exact .inl (by rw [lR 157 (by decide) (by decide) (by decide)]; exact v4)
    · refine .inr ⟨p, P, by rw [lR 157 (by decide) (by decide) (by decide)]; exact p1, p2, p3.kk fI fR, ?_⟩
      unfold PRes at *
      rw [lo 157 (by decide), lo 159 (by decide), lo 160 (by decide)]
      exact p4
theorem InvR.img {tb : Nat → Nat} {tn : Nat} {fk fp : Int32} {w : WD} {tr : TR} {im : IM} {I I' : mkI} {L : mkL} {i : Nat} (h : InvR tb tn fk fp w tr im I L) (hI : ∀ a, a ≠ 200 → a ≠ 201 → I' a = I a) (h1 : ∀ j, j < 3 → I' 201 j = if j = i then 1 else I 201 j) (h2 : ∀ j, j < 3 → j ≠ i → ∀ q, q < 3205 → I' 200 (3205 * j + q) = I 200 (3205 * j + q)) (h3 : ∀ q, q < 3205 → I' 200 (3205 * i + q) = I 198 q) {Mx : Nat} (hw : WOK Mx w) (hm : ∀ j w', im j = some w' → WOK Mx w') : InvR tb tn fk fp w tr (imUp im i w) I' L := by
  obtain ⟨a1, a2, a3, a4, a5, a6⟩ := h
  refine ⟨?_, ?_, ?_, ?_, fun j hj => ?_, ?_⟩
  · rw [hI 197 (by decide) (by decide), hI 202 (by decide) (by decide)]; exact a1
  · rw [hI 197 (by decide) (by decide)]; exact a2
  · rw [hI 198 (by decide) (by decide)]; exact a3
  · unfold RTr at *
    rw [hI 217 (by decide) (by decide), hI 218 (by decide) (by decide)]; exact a4
  · unfold imUp
    by_cases e : j = i
    · subst e
      rw [if_pos rfl]
      exact ⟨by rw [h1 j hj, if_pos rfl], a3.k3205 hw h3⟩
    · rw [if_neg e]
      have := a5 j hj
      revert this
      rw [h1 j hj, if_neg e]
      cases him : im j with
      | none => exact id
      | some w0 =>
        rintro ⟨y1, y2⟩
        exact ⟨y1, y2.k3205 (hm j w0 him) (h2 j hj e)⟩
  · rw [hI 205 (by decide) (by decide)]; exact a6
theorem e_imgL {S : mkS} {L : mkL} {R : mkR} {n : Nat × Nat} (hs : St S R) {i : Nat} (hi : i < 3) : ∀ (r g j : Nat) (I : mkI), j + r = 3205 → r < g → ∃ I', F_X12_image_38 g (some 197) (nI i) (nI j) (mk S I L R n) = some (mk S I' L R n) ∧ (∀ x, x ≠ 200 → I' x = I x) ∧ (∀ q, j ≤ q → q < 3205 → I' 200 (3205 * i + q) = I 198 q) ∧ ∀ q, q < 3205 * i + j ∨ 3205 * i + 3205 ≤ q → I' 200 q = I 200 q := by
  intro r
  induction r with
  | zero =>
    intro g j I hj hg
    obtain ⟨g, rfl⟩ : ∃ z, g = z + 1 := ⟨g - 1, by omega⟩
    have : j = 3205 := by omega
    subst this
    refine ⟨I, ?_, fun _ _ => rfl, fun q h1 h2 => by omega, fun _ _ => rfl⟩
    simp only [F_X12_image_38]
    rw [if_pos (by decide)]
  | succ r ih =>
    intro g j I hj hg
    obtain ⟨g, rfl⟩ : ∃ z, g = z + 1 := ⟨g - 1, by omega⟩
    obtain ⟨I', q1, q2, q3, q4⟩ := ih g (j + 1) (up2 I 200 (3205 * i + j) (I 198 j)) (by omega) (by omega)
    refine ⟨I', ?_, fun x hx => by rw [q2 x hx, up2_ne _ _ _ hx], fun q h1 h2 => ?_, fun q hq => ?_⟩
    · simp only [F_X12_image_38]
      rw [if_neg (ge_li 3205 (by omega) (by decide)), gr_197_2 hs, Option.bind_some, gr_197_0 hs, Option.bind_some, ai_198 hs (by omega), Option.bind_some, show (3205 : Int32) * nI i = nI (3205 * i) from nI_mul9 3205 i, nI_add, si_200 hs (by omega), Option.bind_some, nI_1]
      exact q1
    · by_cases e : q = j
      · subst e
        rw [q4 _ (by omega), up2_self]
      · rw [q3 q (by omega) h2, up2_ne _ _ _ (by decide)]
    · rw [q4 q (by omega), up2_row, up1_ne _ _ (by omega)]
