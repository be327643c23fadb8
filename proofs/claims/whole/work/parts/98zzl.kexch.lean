/-! exchange: both sides -/
theorem cap_g {s s' k c A B : Nat} (hAB : A ≤ B) (h : s + B * (k + 1) ≤ c) (h2 : s' ≤ s + A) : s' + B * k ≤ c := by
  rw [Nat.mul_succ] at h
  obtain ⟨q, hq⟩ : ∃ q, q = B * k := ⟨_, rfl⟩
  rw [← hq] at h ⊢
  omega
theorem cap_a {s k c : Nat} (h : s + 8000 * (k + 1) ≤ c) : s + 2876 ≤ c := Nat.le_trans (Nat.le_add_right _ (8000 * k)) (cap_g (s' := s + 2876) (show 2876 ≤ 8000 by decide) h (Nat.le_refl _))
theorem cap_b {s s' k c : Nat} (h : s + 8000 * (k + 1) ≤ c) (h2 : s' ≤ s + 2876) : s' + 8000 * k ≤ c := cap_g (show 2876 ≤ 8000 by decide) h h2
section EX2
variable {Ls : Nat} {xs : Nat → Int32} {S : mkS} {I : mkI} {L : mkL} {R : mkR} {n : Nat × Nat} {tb : Nat → Nat} {tn : Nat} {fk fp : Int32} {w : WD} {tr : TR} {im : IM} {k : Nat}
def XR (tb : Nat → Nat) (w : WD) (tr : TR) (im : IM) (I' : mkI) (L : mkL) (v : Int32) (r : DLR) : Prop := match r with
  | .inl e => v = -10 - nI e.1 ∧ InvR tb 0 (nI e.1) (nI e.2) w tr im I' L
  | .inr (_, D) => v = nI (dT D) ∧ InvR tb 0 0 (-1) (WN D) tr im I' L
theorem e_exch (hs : St S R) (hl : Low Ls xs S I R) (hR : InvR tb tn fk fp w tr im I L) {N : Nat} (hN : N ≤ tn) (hb : ∀ j, j < tn → tb j < 256) : ∃ I' v, F_X12_exchange (some 197) (nI N) (mk S I L R n) = some (v, mk S I' L R n) ∧ I' 197 4 = 0 ∧ FrR I I' L L ∧ XR tb w tr im I' L v (textP (tb, N) dr0) := by
  obtain ⟨⟨r1, r2, r3⟩, -⟩ := id hR
  have e2 := fun h => e_in (nI N) 0 (nI tn) h
  rw [show (0 : Int32).toInt64 = 0 by decide] at e2
  have hw2 : wI (nI N) 0 (nI tn) = true := (wI_iff (lo := 0) (by decide) (by omega)).mpr ⟨N, Nat.zero_le _, hN, rfl⟩
  obtain ⟨J, hJ⟩ : ∃ J, J = up2 (up2 (up2 (up2 (up2 (up2 I 197 4 0) 197 7 (nI N)) 197 6 0) 197 8 0) 197 12 0) 197 16 0 := ⟨_, rfl⟩
  have kJ : ∀ x, x ≠ 197 → J x = I x := fun x hx => by rw [hJ]; simp only [up2_ne _ _ _ hx]
  have jm : J 197 = up1 (up1 (up1 (up1 (up1 (up1 (I 197) 4 0) 7 (nI N)) 6 0) 8 0) 12 0) 16 0 := by rw [hJ]; simp only [up2_row]
  have hlJ : Low Ls xs S J R := hl.fr (fun _ _ => rfl) (fun a ha => kJ a (by show a ≠ 197; omega)) (fun _ _ => rfl)
  obtain ⟨I1, q1, q2, q3⟩ := e_read (L := L) (n := n) hs hlJ (tb := tb) (N := N) (by omega) (fun j hj => ⟨hb j (by omega), by rw [kJ _ (by decide)]; exact r3 j (by omega)⟩) (by rw [jm]; rfl) (by rw [jm]; rfl) (by rw [jm]; rfl) (by rw [jm]; rfl)
  have m4 : I1 197 4 = 0 := by rw [q3.2 4 (by omega) (by omega), jm]; rfl
  have m6 : I1 197 6 = 0 := by rw [q3.2 6 (by omega) (by omega), jm]; rfl
  have k1 : ∀ x, x ≠ 197 → x ≠ 199 → I1 x = I x := fun x a b => (q3.1 x a b).trans (kJ x a)
  have head : F_X12_exchange (some 197) (nI N) (mk S I L R n) = F_X12_exchange_145 (some 197) (mk S I1 L R n) := by
    unfold F_X12_exchange
    rw [pi_197_4 hs, Option.bind_some, gi_197_6 hs, Option.bind_some, up2_row, up1_ne _ _ (by decide), r2, e2, b2_some, hw2, if_neg (by decide), pi_197_7 hs, Option.bind_some, pi_197_6 hs, Option.bind_some, pi_197_8 hs, Option.bind_some, pi_197_12 hs, Option.bind_some, pi_197_16 hs, Option.bind_some, ← hJ]
    exact q1
  have hok := textP_ok (B := (tb, N)) (by show N ≤ 900; omega)
  rw [head]
  cases e : textP (tb, N) dr0 with
  | inl q =>
    rw [e] at q2
    have q2 : FlR q I1 := q2
    obtain ⟨J1, hJ1⟩ : ∃ J1, J1 = up2 I1 197 14 (nI q.1) := ⟨_, rfl⟩
    obtain ⟨J2, hJ2⟩ : ∃ J2, J2 = up2 J1 197 15 (nI q.2) := ⟨_, rfl⟩
    have p1 : ∀ j, j ≠ 14 → J1 197 j = I1 197 j := fun j hj => by rw [hJ1, up2_row, up1_ne _ _ hj]
    have p2 : ∀ j, j ≠ 14 → j ≠ 15 → J2 197 j = I1 197 j := fun j h1 h2 => by rw [hJ2, up2_row, up1_ne _ _ h2, p1 j h1]
    have k2 : ∀ x, x ≠ 197 → J2 x = I1 x := fun x hx => by rw [hJ2, up2_ne _ _ _ hx, hJ1, up2_ne _ _ _ hx]
    have n1 : ¬ J1 197 12 = 0 := by rw [p1 _ (by decide)]; exact q2.ne
    have n2 : ¬ J2 197 12 = 0 := by rw [p2 _ (by decide) (by decide)]; exact q2.ne
    refine ⟨J2, -10 - nI q.1, ?_, by rw [p2 _ (by decide) (by decide)]; exact m4, fun x hx => ⟨?_, rfl⟩, rfl, hR.ex (fun x a b _ => by rw [k2 x a, k1 x a b]) (by rw [p2 _ (by decide) (by decide)]; exact m6) ?_ (by rw [hJ2, up2_self]) ?_⟩
    · unfold F_X12_exchange_145 F_X12_exchange_169
      rw [gi_197_12 hs, Option.bind_some, q2.1, pi_197_14 hs, Option.bind_some, ← hJ1, gi_197_12 hs, Option.bind_some, if_neg n1, gi_197_13 hs, Option.bind_some, p1 _ (by decide), q2.2.1, pi_197_15 hs, Option.bind_some, ← hJ2, gi_197_12 hs, Option.bind_some, if_neg n2, Option.bind_some, p2 _ (by decide) (by decide), q2.1]
    · rw [k2 x (by show x ≠ 197; omega), k1 x (by show x ≠ 197; omega) (by show x ≠ 199; omega)]
    · rw [hJ2, up2_row, up1_ne _ _ (by decide), hJ1, up2_self]
    · rw [k2 _ (by decide), k1 _ (by decide) (by decide)]; exact hR.2.2.1
  | inr q =>
    obtain ⟨t', D⟩ := q
    rw [e] at q2 hok
    obtain ⟨u1, u2⟩ : I1 197 12 = 0 ∧ DfR D (I1 199) := q2
    have hG : DG D := hok.2.1
    obtain ⟨J1, hJ1⟩ : ∃ J1, J1 = up2 I1 197 14 0 := ⟨_, rfl⟩
    obtain ⟨J2, hJ2⟩ : ∃ J2, J2 = up2 J1 197 15 (-1) := ⟨_, rfl⟩
    have p1 : ∀ j, j ≠ 14 → J1 197 j = I1 197 j := fun j hj => by rw [hJ1, up2_row, up1_ne _ _ hj]
    have p2 : ∀ j, j ≠ 14 → j ≠ 15 → J2 197 j = I1 197 j := fun j h1 h2 => by rw [hJ2, up2_row, up1_ne _ _ h2, p1 j h1]
    have k2 : ∀ x, x ≠ 197 → J2 x = I1 x := fun x hx => by rw [hJ2, up2_ne _ _ _ hx, hJ1, up2_ne _ _ _ hx]
    obtain ⟨I2, s1, s2, s3⟩ := e_copyT (L := L) (n := n) hs 3205 mm_N 0 J2 (by omega) (by unfold mm_N; decide)
    have kn : ∀ q, q < 3205 → I2 198 q = I1 199 q := fun q hq => by rw [s3 q hq, if_pos (Nat.zero_le _), k2 _ (by decide)]
    have hC := hG.2.2.1.1
    obtain ⟨I3, y1, y2, y3, y4⟩ := e_lostT (L := L) (n := n) hs hC (dC D) mm_N 0 I2 (by omega) (by show dC D < 1000000; omega) (by rw [kn _ (by omega)]; exact u2.2.2.1.1)
    have m3 : I3 197 = J2 197 := (y2 _ (by decide)).trans (s2 _ (by decide))
    refine ⟨I3, nI (dT D), ?_, by rw [m3, p2 _ (by decide) (by decide)]; exact m4, fun x hx => ⟨?_, rfl⟩, rfl, hR.ex (fun x a b c => by rw [y2 x c, s2 x c, k2 x a, k1 x a b]) (by rw [m3, p2 _ (by decide) (by decide)]; exact m6) ?_ (by rw [m3, hJ2, up2_self]) (u2.rw hG (fun q h1 h2 => ?_) (fun d hd => ?_))⟩
    · unfold F_X12_exchange_145 F_X12_exchange_169
      rw [gi_197_12 hs, Option.bind_some, u1, pi_197_14 hs, Option.bind_some, ← hJ1, gi_197_12 hs, Option.bind_some, p1 _ (by decide), u1, if_pos rfl, pi_197_15 hs, Option.bind_some, ← hJ2, gi_197_12 hs, Option.bind_some, p2 _ (by decide) (by decide), u1, if_pos rfl, show F_X12_exchange_189 mm_N (some 197) 0 (mk S J2 L R n) = _ from s1, show F_X12_exchange_216 mm_N (some 197) 0 (mk S I2 L R n) = _ from y1, kn _ (by omega), u2.1.1]
    · rw [y2 x (by show x ≠ 198; omega), s2 x (by show x ≠ 198; omega), k2 x (by show x ≠ 197; omega), k1 x (by show x ≠ 197; omega) (by show x ≠ 199; omega)]
    · rw [m3, hJ2, up2_row, up1_ne _ _ (by decide), hJ1, up2_self]
    · rw [y3 q (by omega), kn q h1]
    · rw [y4 d (Nat.zero_le _) hd, kn _ (by omega), kn _ (by omega), kn _ (by omega)]
/-- what the class comes to -/
def XC (tb : Nat → Nat) (w : WD) (tr : TR) (im : IM) (k : Nat) (S' : mkS) (I' : mkI) (L' : mkL) (R' : mkR) (n' : Nat × Nat) (v : Int32) (r : DLR) : Prop := match r with
  | .inl e => v = -10 - nI e.1 ∧ InvC tb 0 (nI e.1) (nI e.2) w tr im k S' I' L' R' n'
  | .inr (_, D) => v = nI (dT D) ∧ InvC tb 0 0 (-1) (WN D) tr im k S' I' L' R' n'
theorem x_exch (hl : Low Ls xs S I R) (hC : InvC tb tn fk fp w tr im (k + 1) S I L R n) {N : Nat} (hN : N ≤ tn) : ∃ S' I' L' R' n' v, F_X11_exchange (some 128) (nI N) (mk S I L R n) = some (.inr v, mk S' I' L' R' n') ∧ (∀ a, a < 128 ∨ (197 ≤ a ∧ a < 221) → S' a = S a ∧ I' a = I a ∧ L' a = L a ∧ R' a = R a) ∧ XC tb w tr im k S' I' L' R' n' v (textP (tb, N) dr0) := by
  obtain ⟨⟨hs, hLW, h0, h221, hc1, hc2⟩, ⟨t1, t2, t3⟩, -, hW, -⟩ := id hC
  have hw2 : wI (nI N) 0 (nI tn) = true := (wI_iff (lo := 0) (by decide) (by omega)).mpr ⟨N, Nat.zero_le _, hN, rfl⟩
  obtain ⟨J, hJ⟩ : ∃ J, J = up2 I 128 1 0 := ⟨_, rfl⟩
  have kJ : ∀ y, y ≠ 128 → J y = I y := fun y hy => by rw [hJ, up2_ne _ _ _ hy]
  obtain ⟨I1, q1, q2, q3⟩ := c_read (L := L) (n := n) hs (I := J) (hl.fr (fun _ _ => rfl) (fun a ha => kJ a (by show a ≠ 128; omega)) (fun _ _ => rfl)) (tb := tb) (N := N) (by omega) (fun j hj => by rw [kJ _ (by decide)]; exact t3 j (by omega))
  have hok := textP_ok (B := (tb, N)) (by show N ≤ 900; omega)
  have k1 : ∀ y, y ≠ 128 → ¬ (163 ≤ y ∧ y ≤ 169) → I1 y = I y := fun y a b => (q3 y b).trans (kJ y a)
  have x1 : I1 128 = J 128 := q3 _ (by decide)
  -- the fault's fields
  have fin : ∀ (a b : Int32), I1 163 13 = a → I1 163 14 = b → ∃ I2, I2 = up2 (up2 I1 128 3 a) 128 4 b ∧ F_X11_exchange (some 128) (nI N) (mk S I L R n) = (if a = 0 then ((gR (mk S I2 L R n) (some 128) 11 5).bind fun v60 => mm_b2 (nO (mk S I2 L R n) 8 [.int 0, .int 0, .int 0, .null, .null, .null, .null] 7) fun v63 h63 => (gR h63 (some 128) 11 2).bind fun v68 => v63.bind fun b71 => (F_X8_init (some b71) v68 h63).bind fun h71 => (gR h71 (some 128) 11 2).bind fun v75 => (cV h71 v60 0 (F_X0_setUp v60 (some b71) v75 h71)).bind fun h78 => (gR h78 (some 128) 11 6).bind fun v82 => (cV h78 v82 3 (F_X3_forget v82 h78)).bind fun h85 => (gR h85 (some 128) 11 5).bind fun v89 => (gR h85 v89 0 2).bind fun v92 => (gI h85 v92 8 2).bind fun v95 => some (.inr v95, h85)) else some (.inr (((-10) : Int32) - a), mk S I2 L R n)) := fun a b ha hb => by
    obtain ⟨I2, hI2⟩ : ∃ I2, I2 = up2 (up2 I1 128 3 a) 128 4 b := ⟨_, rfl⟩
    have e3 : I2 128 3 = a := by rw [hI2, up2_row, up1_ne _ _ (by decide), up2_self]
    refine ⟨I2, hI2, ?_⟩
    unfold F_X11_exchange
    rw [gi_128_1 hs, Option.bind_some, t2, x_within hC, if_pos hw2, b3_some, pi_128_1 hs, Option.bind_some, ← hJ, gr_128_2 hs, Option.bind_some, cv_163 hs, q1, Option.bind_some, gr_128_2 hs, Option.bind_some, cv_163 hs]
    unfold F_X7_flaw F_X7_flawPlace
    rw [gi_163_13 hs, Option.bind_some, b2_some, ha, pi_128_3 hs, Option.bind_some, gr_128_2 hs, Option.bind_some, cv_163 hs, gi_163_14 hs, Option.bind_some, b2_some, up2_ne _ _ _ (by decide), hb, pi_128_4 hs, Option.bind_some, ← hI2, gi_128_3 hs, Option.bind_some, e3, Option.bind_some]
  have ex2 : ∀ (a b : Int32) I2, I2 = up2 (up2 I1 128 3 a) 128 4 b → InvC tb 0 a b w tr im (k + 1) S I2 L R n ∧ (∀ y, y ≠ 128 → I2 y = I1 y) := fun a b I2 hI2 => by
    have ky : ∀ y, y ≠ 128 → I2 y = I1 y := fun y hy => by rw [hI2, up2_ne _ _ _ hy, up2_ne _ _ _ hy]
    refine ⟨hC.ex (fun y h1 h2 => ?_) ?_ ?_ ?_, ky⟩
    · rw [ky y h1]
      exact k1 y h1 (fun z => h2 (by unfold scr; omega))
    · rw [hI2, up2_row, up1_ne _ _ (by decide), up2_row, up1_ne _ _ (by decide), x1, hJ, up2_self]
    · rw [hI2, up2_row, up1_ne _ _ (by decide), up2_self]
    · rw [hI2, up2_self]
  cases e : textP (tb, N) dr0 with
  | inl q =>
    rw [e] at q2 hok
    obtain ⟨u1, u2⟩ : I1 163 13 = nI q.1 ∧ I1 163 14 = nI q.2 := q2
    obtain ⟨I2, hI2, f⟩ := fin _ _ u1 u2
    obtain ⟨i1, i2⟩ := ex2 _ _ I2 hI2
    have hok : 1 ≤ q.1 ∧ q.1 ≤ 4 := hok
    refine ⟨S, I2, L, R, n, -10 - nI q.1, ?_, fun a ha => ⟨rfl, ?_, rfl, rfl⟩, rfl, i1.le⟩
    · rw [f, if_neg (fun z => by have := (nI_eq (b := 0) (by omega) (by omega)).mp z; omega)]
    · rw [i2 a (by show a ≠ 128; omega), k1 a (by show a ≠ 128; omega) (by omega)]
  | inr q =>
    obtain ⟨t', D⟩ := q
    rw [e] at q2 hok
    obtain ⟨u1, u2, l, u3, u4, u5⟩ : I1 163 13 = 0 ∧ I1 163 14 = -1 ∧ ∃ l : List Nat, l.length ≤ 898 ∧ DfC D l I1 ∧ ∀ j, j < l.length → I1 167 j = nI (l.getD j 0) := q2
    have hG : DG D := hok.2.1
    obtain ⟨I2, hI2, f⟩ := fin _ _ u1 u2
    obtain ⟨i1, i2⟩ := ex2 _ _ I2 hI2
    have hD2 : DfC D l I2 := by
      unfold DfC at u4 ⊢
      rw [i2 163 (by decide), i2 165 (by decide), i2 166 (by decide), i2 168 (by decide), i2 169 (by decide)]
      exact u4
    obtain ⟨z, s⟩ := n
    simp only at h0 h221 hc1 hc2
    have y2876 : s + 2876 ≤ mm_capS := cap_a hc2
    obtain ⟨S1, I3, L1, R1, S', I4, L', R4, z', s', eA, g1, eB, hPl, gP, f0, z1, z2, z3, lw⟩ := al_plan (L := L) hs hD2 hG u3 (fun j hj => by rw [i2 _ (by decide)]; exact u5 j hj) h0 h221 hLW (by omega) y2876
    have hs1 := hs.gr h221 g1
    have hs4 := hs.gr h221 gP
    have ysk : s' + 8000 * k ≤ mm_capS := cap_b hc2 z3
    have iG : InvC tb 0 0 (-1) w tr im k S' I4 L' R4 (z', s') := i1.gr gP lw f0 z1 (by show z' + 40 * k ≤ _; omega) (ysk)
    obtain ⟨hbd, -, hce, hdd, nx, n1, n2, n3, n4⟩ := id iG.2.2.2.1
    obtain ⟨I5, R5, hR5, c1, c2, c3⟩ := c_setUp (L := L') (n := (z', s')) hs4 hG hPl.1 hbd (hD2.gr h221 gP)
    have kR5 : ∀ y, y ≠ 170 → R5 y = R4 y := fun y hy => by rw [hR5, up2_ne _ _ _ hy]
    have kR5' : ∀ j, j ≠ 2 → R5 170 j = R4 170 j := fun j hj => by rw [hR5, up2_row, up1_ne _ _ hj]
    have hs5 : St S' R5 := hs4.b170 kR5 kR5'
    have hd5 : DdS S' R5 130 131 := by
      obtain ⟨w1, w2, w3, w4, w5⟩ := hdd
      exact ⟨w1, w2, by rw [kR5 _ (by decide)]; exact w3, w4, w5⟩
    have hb5 : BdS S' R5 170 174 175 := by
      obtain ⟨b1, b2, b3, b4, b5, b6⟩ := hbd
      exact ⟨b1, by rw [kR5' _ (by decide)]; exact b2, by rw [kR5' _ (by decide)]; exact b3, b4, b5, b6⟩
    obtain ⟨I6, hI6⟩ : ∃ I6, I6 = up2 I5 130 2 0 := ⟨_, rfl⟩
    have k6 : ∀ y, y ≠ 174 → y ≠ 130 → I6 y = I4 y := fun y a b => by rw [hI6, up2_ne _ _ _ b, c3 y a]
    have rb2 : R5 170 2 = some z := by rw [hR5, up2_self]
    have sz17 := hPl.1
    have pl6 : CPlan (PD D) S' R5 I6 z := hPl.kk (fun y hy _ => k6 y (by unfold pa at hy; show y ≠ 174; omega) (by unfold pa at hy; show y ≠ 130; omega)) (fun y hy => kR5 y (fun e => by rw [e, hb5.1] at hy; simp at hy))
    have cw6 : CW (WN D) S' R5 I6 170 174 175 130 131 := ⟨hb5, ⟨z, rb2, pl6⟩, fun j hj => by
      rw [hI6, up2_ne _ _ _ (by decide)]
      exact c2 j hj, hd5, nx, n1, by rw [hI6, up2_row, up1_ne _ _ (by decide), c3 _ (by decide)]; exact n2, by rw [hI6, up2_self]; rfl, fun i hi => absurd hi (Nat.not_lt_zero _)⟩
    refine ⟨S', I6, L', R5, (z', s'), nI (dT D), ?_, fun a ha => ?_, rfl, iG.wd (fun y a b _ => k6 y a b) kR5 kR5' cw6⟩
    · rw [f, if_pos rfl, gr_128_5 hs, Option.bind_some, eA, b2_some, gr_128_2 hs1, Option.bind_some, Option.bind_some, eB, Option.bind_some, gr_128_2 hs4, Option.bind_some, bd_v hbd, c1, Option.bind_some, gr_128_6 hs5, Option.bind_some, dd_v hd5]
      unfold F_X3_forget
      rw [mk_pI (c := 3) (by rw [hd5.1]) rfl (by decide), Option.bind_some, ← hI6, Option.bind_some, gr_128_5 hs5, Option.bind_some, bd_p hb5 rb2, Option.bind_some, mk_gI (c := 8) (by rw [sz17]) rfl, Option.bind_some, pl6.2.2.1.2.2]
      rfl
    · obtain ⟨y1, y2, y3, y4⟩ := gP a (by omega)
      exact ⟨y1, by rw [k6 a (by show a ≠ 174; omega) (by show a ≠ 130; omega), y2, i2 a (by show a ≠ 128; omega), k1 a (by show a ≠ 128; omega) (by omega)], y3, by rw [kR5 a (by show a ≠ 170; omega), y4]⟩
end EX2
/-- a call that may throw, early enough -/
def GoodX (Ls : Nat) (xs : Nat → Int32) (c : MH → Option (Int32 × MH)) (m : MH → Option (Int32 × MH)) : Prop := ∀ k S I L R n, k ≤ 512 → AllInv Ls xs (k + 1) S I L R n → ∃ t v S' I' L' R' n' I'' L'', c (mk S I L R n) = some (t, mk S' I' L' R' n') ∧ (t = 0 → L' 220 0 = Int32.toInt64 v) ∧ m (mk S' I' L' R' n') = some (v, mk S' I'' L'' R' n') ∧ I'' 197 4 = t ∧ L'' 220 0 = L' 220 0 ∧ AllK Ls xs k S' I' I'' L'' R' n'
theorem WOK.up {Mx Mx' : Nat} {w : WD} (h : WOK Mx w) (hM : Mx ≤ Mx') : WOK Mx' w := by
  obtain ⟨h1, h2, h3, h4⟩ := h
  refine ⟨h1, h2, fun u hu => ?_, h4⟩
  obtain ⟨F, T, A, D, M, hB, hm⟩ := h3 u hu
  exact ⟨F, T, A, D, M, hB, by omega⟩
theorem k_exchange (Ls : Nat) (xs : Nat → Int32) (a : Int32) : GoodX Ls xs (F_L_exchange (some 128) a (some 220)) (F_X12_exchange (some 197) a) := by
  intro k S I L R n hk ⟨hl, tb, tn, fk, fp, w, tr, im, hC, hR, hG⟩
  have hs := hC.1.1
  obtain ⟨t1, t2, t3⟩ := hC.2.1
  have e2 := fun h => e_in a 0 (nI tn) h
  rw [show (0 : Int32).toInt64 = 0 by decide] at e2
  have m6 : I 197 6 = nI tn := hR.1.2.1
  by_cases h1 : wI a 0 (nI tn) = true
  · obtain ⟨N, -, hN, rfl⟩ := (wI_iff (lo := 0) (by decide) (by omega)).mp h1
    obtain ⟨S', I', L', R', n', v, x1, x2, x3⟩ := x_exch hl hC hN
    have fC : FrC S S' I I' L L' R R' := ⟨fun a q => ⟨(x2 a (by omega)).1, (x2 a (by omega)).2.1, (x2 a (by omega)).2.2.2⟩, fun a q => (x2 a (by omega)).2.2.1⟩
    have fC2 := fC.out 0 v.toInt64
    have hR' := hR.ofC fC2
    have hl' : Low Ls xs S' I' R' := hl.fr (fun a q => (x2 a (by omega)).1) (fun a q => (x2 a (by omega)).2.1) (fun a q => (x2 a (by omega)).2.2.2)
    have hs' : St S' R' := by
      cases e : textP (tb, N) dr0 with
      | inl q => rw [e] at x3; exact x3.2.1.1
      | inr q => rw [e] at x3; exact x3.2.1.1
    obtain ⟨I'', v', y1, y2, y3, y4⟩ := e_exch (n := n') hs' hl' hR' hN (fun j hj => (t3 j hj).1)
    obtain ⟨Mx, g1, g2, g3⟩ := hG.le
    have ok := textP_ok (B := (tb, N)) (by show N ≤ 900; omega)
    cases e : textP (tb, N) dr0 with
    | inl q =>
      rw [e] at x3 y4
      obtain ⟨rfl, x3⟩ := x3
      obtain ⟨rfl, y4⟩ := y4
      exact pk_ok (t := 0) hl (L_exchange_0 hs hs' x1) (fun _ => up2_self _ _ _ _) y1 y2 fC2 y3 (x3.out 0 _) y4 ⟨Mx, g1, g2, g3⟩
    | inr q =>
      obtain ⟨t', D⟩ := q
      rw [e] at x3 y4 ok
      obtain ⟨rfl, x3⟩ := x3
      obtain ⟨rfl, y4⟩ := y4
      refine pk_ok (t := 0) hl (L_exchange_0 hs hs' x1) (fun _ => up2_self _ _ _ _) y1 y2 fC2 y3 (x3.out 0 _) y4 ⟨max Mx 999, ?_, WN_ok ok.2.1 (Nat.le_max_right _ _), fun i w' hi => (g3 i w' hi).up (Nat.le_max_left _ _)⟩
      show max Mx 999 + 99 * k ≤ 60000
      omega
  · refine pk_thr (t := 1) (by decide) hl hC hR hG (L_exchange_1 hs ?_) (v := 0) ?_
    · unfold F_X11_exchange
      rw [gi_128_1 hs, Option.bind_some, t2, x_within hC, if_neg h1, b3_thr2]; rfl
    · unfold F_X12_exchange F_X12_fails
      rw [pi_197_4 hs, Option.bind_some, gi_197_6 hs, Option.bind_some, up2_row, up1_ne _ _ (by decide), m6, e2, b2_some, b2i_ne h1, if_pos rfl, cv_197 hs, pi_197_4 hs, Option.bind_some, b2_some]
      refine congrArg (fun q => some (0, mk S q L R (n.1 + 1, n.2 + 6))) (funext fun b => funext fun j => ?_)
      simp only [up2]; split <;> rfl
