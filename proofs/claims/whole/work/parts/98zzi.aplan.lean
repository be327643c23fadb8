/-! a plan made of a draft -/
def PD (D : DR) : PL := (dT D, dW D, dK D, fun k => nI (dB D k), dL D 0, dL D 1, dL D 2)
theorem PD_ok {D : DR} (h : DG D) : PlOK (PD D) := ⟨h.1.1, h.1.2.1, h.2.1.1, h.2.2.2 0 (by decide), h.2.2.2 1 (by decide), h.2.2.2 2 (by decide)⟩
theorem CLaw.x {S : mkS} {R R' : mkR} {I I' : mkI} {r : Option Nat} {ops : List Nat} (h : CLaw S R I r ops) (hI : ∀ a, S a = (14, 0) → I' (a + 1) = I (a + 1)) (hR : ∀ a, S a = (14, 0) → R' a = R a) : CLaw S R' I' r ops := by
  rcases h with h | ⟨h1, a, h2, h3, h4, h5⟩
  · exact .inl h
  · have e := hR a h4.1
    refine .inr ⟨h1, a, h2, h3, ⟨h4.1, by rw [e]; exact h4.2.1, by rw [e]; exact h4.2.2.1, h4.2.2.2⟩, fun j hj => by rw [hI a h4.1]; exact h5 j hj⟩
section APL
variable {S : mkS} {I : mkI} {L : mkL} {R : mkR} {n : Nat × Nat}
theorem pr_6 (hs : St S R) {v : Int32} (h : I 163 6 = v) : F_X7_lines (some 163) (mk S I L R n) = some (v, mk S I L R n) := by
  unfold F_X7_lines; rw [gi_163_6 hs, Option.bind_some, h]
theorem pr_7 (hs : St S R) {v : Int32} (h : I 163 7 = v) : F_X7_cords (some 163) (mk S I L R n) = some (v, mk S I L R n) := by
  unfold F_X7_cords; rw [gi_163_7 hs, Option.bind_some, h]
theorem pr_10 (hs : St S R) {v : Int32} (h : I 163 10 = v) : F_X7_textLines (some 163) (mk S I L R n) = some (v, mk S I L R n) := by
  unfold F_X7_textLines; rw [gi_163_10 hs, Option.bind_some, h]
theorem pr_reach (hs : St S R) {D : DR} {l : List Nat} (hD : DfC D l I) {k : Nat} (hk : k < dK D) : F_X7_reachOf (some 163) (nI k) (mk S I L R n) = some (nI (dB D k), mk S I L R n) := by
  obtain ⟨-, ⟨d7, d8, d9⟩, -⟩ := hD
  unfold F_X7_reachOf F_X7_reachOf_27
  rw [if_neg (nI_pos (by omega)), gi_163_7 hs, Option.bind_some, d7, if_neg (nI_ge hk (by omega)), if_neg (show ¬ (3 : Int32) ≤ nI k from nI_ge (b := 3) (by omega) (by omega)), gr_163_1 hs, Option.bind_some, show aI (mk S I L R n) (some 165) 0 (nI k) = _ from mk_aJ0 (S_165 hs) (by omega) (by decide), Option.bind_some, (d9 k hk).1]
theorem c_reachL (hs : St S R) {D : DR} {l : List Nat} (hG : DG D) {p ra : Nat} (hp : S p = (17, 0)) (hpz : 221 ≤ p) (hra : S ra = (1, 3)) (hrz : 221 ≤ ra) (hne : ra ≠ p) (r3 : R p 3 = some ra) : ∀ (r g k : Nat) (I : mkI), k + r = dK D → r < g → DfC D l I → I p 1 = nI (dK D) → (∀ j, j < k → I ra j = nI (dB D j)) → ∃ I', F_X8_init_62 g (some p) (some 163) (nI k) (mk S I L R n) = F_X8_init_62 (g - r) (some p) (some 163) (nI (dK D)) (mk S I' L R n) ∧ (∀ j, j < dK D → I' ra j = nI (dB D j)) ∧ ∀ x, x ≠ ra → I' x = I x := by
  intro r
  induction r with
  | zero =>
    intro g k I hk hg hD hp1 h
    have : k = dK D := by omega
    subst this
    exact ⟨I, rfl, h, fun _ _ => rfl⟩
  | succ r ih =>
    intro g k I hk hg hD hp1 h
    obtain ⟨g, rfl⟩ : ∃ y, g = y + 1 := ⟨g - 1, by omega⟩
    have hK3 := hG.2.1.1
    have kx : ∀ x, x ≠ ra → (up2 I ra k (nI (dB D k))) x = I x := fun x hx => up2_ne _ _ _ hx
    have hD' : DfC D l (up2 I ra k (nI (dB D k))) := by
      unfold DfC at hD ⊢
      rw [kx _ (by omega), kx _ (by omega), kx _ (by omega), kx _ (by omega), kx _ (by omega)]
      exact hD
    obtain ⟨I', q1, q2, q3⟩ := ih g (k + 1) (up2 I ra k (nI (dB D k))) (by omega) (by omega) hD' (by rw [kx _ (fun e => hne e.symm)]; exact hp1) (fun j hj => by
      rw [up2_row]
      by_cases e : j = k
      · rw [e, up1_self]
      · rw [up1_ne _ _ e]; exact h j (by omega))
    refine ⟨I', ?_, q2, fun x hx => by rw [q3 x hx, kx x hx]⟩
    have step : F_X8_init_62 (g + 1) (some p) (some 163) (nI k) (mk S I L R n) = F_X8_init_62 g (some p) (some 163) (nI (k + 1)) (mk S (up2 I ra k (nI (dB D k))) L R n) := by
      simp only [F_X8_init_62]
      rw [mk_gI (c := 8) (by rw [hp]) rfl, Option.bind_some, hp1, if_neg (nI_ge (by omega) (by omega)), mk_gR (c := 8) (by rw [hp]) rfl, Option.bind_some, r3, cv_163 hs, pr_reach hs hD (by omega), b2_some, mk_sJ0 hra (by omega) (by decide) (by omega), Option.bind_some, nI_1]
    rw [step, q1, show g + 1 - (r + 1) = g - r by omega]
theorem c_likI {P : PL} (hP : PlOK P) {p la a : Nat} (hp : S p = (17, 0)) (hp2 : 128 ≤ p) (hla : S la = (1, 64)) (hla2 : 128 ≤ la) (r4 : R p 4 = some la) (hL : LawS S R a (a + 1) (a + 2) (pL' P).length) (hne : pL' P ≠ []) (hac : a + 1 ≠ la) {i : Nat} (hi : i < pW P) (k113 : Option Nat → Option Nat → Int32 → MH → Option MH) : ∀ (r g m : Nat) (I : mkI), m + r = pW P → r < g → I p 0 = nI (pW P) → (∀ j, j < (pL' P).length → I (a + 1) j = nI ((pL' P).getD j 0)) → ∃ I', F_X8_init_128 k113 g (some p) (some a) (nI i) (nI m) (mk S I L R n) = k113 (some p) (some a) (nI (i + 1)) (mk S I' L R n) ∧ (∀ x, x ≠ la → x ≠ a + 2 → I' x = I x) ∧ (∀ j, m ≤ j → j < pW P → I' la (8 * i + j) = aLikes P (nI i) (nI j)) ∧ ∀ q, q < 8 * i + m ∨ 8 * i + pW P ≤ q → I' la q = I la q := by
  have w8 := hP.2.1
  have hcv : ∀ {α : Type} {I : mkI} {q : Option α}, cV (mk S I L R n) (some a) 5 q = q := fun {_ _ _} => mk_cV (c := 5) (by rw [hL.1])
  have n1 : p ≠ la := fun e => by rw [e, hla] at hp; exact absurd (congrArg Prod.fst hp) (by decide)
  have n2 : p ≠ a + 2 := fun e => by rw [e, hL.2.2.2.2.1] at hp; exact absurd (congrArg Prod.fst hp) (by decide)
  have n3 : la ≠ a + 2 := fun e => by rw [e, hL.2.2.2.2.1] at hla; exact absurd (congrArg Prod.snd hla) (by decide)
  intro r
  induction r with
  | zero =>
    intro g m I hm hg h0 hc
    obtain ⟨g, rfl⟩ : ∃ y, g = y + 1 := ⟨g - 1, by omega⟩
    refine ⟨I, ?_, fun _ _ _ => rfl, fun j h1 h2 => by omega, fun _ _ => rfl⟩
    simp only [F_X8_init_128]
    rw [mk_gI (c := 8) (by rw [hp]) rfl, Option.bind_some, h0, if_pos (nI_le (by omega) (by omega)), nI_1]
  | succ r ih =>
    intro g m I hm hg h0 hc
    obtain ⟨g, rfl⟩ : ∃ y, g = y + 1 := ⟨g - 1, by omega⟩
    obtain ⟨I1, hI1⟩ : ∃ I1, I1 = up2 (up2 (up2 (up2 I (a + 2) 0 (nI i)) (a + 2) 1 (nI m)) (a + 2) 2 0) (a + 2) 3 0 := ⟨_, rfl⟩
    have k1 : ∀ x, x ≠ a + 2 → I1 x = I x := fun x hx => by rw [hI1]; simp only [up2_ne _ _ _ hx]
    obtain ⟨gg, hv⟩ := e_value (n := n) (L := L) I1 hL (pL' P) false rfl (fun j hj => by rw [k1 _ (by omega)]; exact hc j hj) (hP.2.2.2.2.1.2.1 hne)
    have ev : lawv (I1 (a + 2)) (pL' P) = aLikes P (nI i) (nI m) := by
      unfold aLikes
      rw [if_neg hne]
      refine lawv_congr (m := 2) (fun j hj => ?_) hP.2.2.2.2.1.2.2
      rw [hI1]
      rcases (show j = 0 ∨ j = 1 by omega) with rfl | rfl
      · simp [up2_row, up1, vr]
      · simp [up2_row, up1, vr]
    obtain ⟨I2, hI2⟩ : ∃ I2, I2 = up1 I1 (a + 2) gg := ⟨_, rfl⟩
    have k2 : ∀ x, x ≠ a + 2 → I2 x = I x := fun x hx => by rw [hI2, up1_ne _ _ hx, k1 x hx]
    obtain ⟨I3, hI3⟩ : ∃ I3, I3 = up2 I2 la (8 * i + m) (aLikes P (nI i) (nI m)) := ⟨_, rfl⟩
    have k3 : ∀ x, x ≠ la → x ≠ a + 2 → I3 x = I x := fun x h1 h2 => by rw [hI3, up2_ne _ _ _ h1, k2 x h2]
    obtain ⟨I', q1, q2, q3, q4⟩ := ih g (m + 1) I3 (by omega) (by omega) (by rw [k3 _ n1 n2]; exact h0) (fun j hj => by rw [k3 _ hac (by omega)]; exact hc j hj)
    refine ⟨I', ?_, fun x h1 h2 => by rw [q2 x h1 h2, k3 x h1 h2], fun j h1 h2 => ?_, fun q hq => ?_⟩
    · simp only [F_X8_init_128]
      rw [mk_gI (c := 8) (by rw [hp]) rfl, Option.bind_some, h0, if_neg (nI_ge (by omega) (by omega)), hcv, e_setVars I hL, Option.bind_some, ← hI1, mk_gR (c := 8) (by rw [hp]) rfl, Option.bind_some, r4, hcv, hv, b2_some, ev, ← hI2, show nI i * (8 : Int32) = nI (8 * i) by rw [Nat.mul_comm]; exact nI_mul9 i 8, nI_add, mk_sJ0 hla (by omega) (by decide) hla2, Option.bind_some, ← hI3, nI_1]
      exact q1
    · by_cases e : j = m
      · rw [e, q4 _ (by omega), hI3, up2_self]
      · exact q3 j (by omega) h2
    · rw [q4 q (by omega), hI3, up2_row, up1_ne _ _ (by omega), k2 la n3]
theorem c_likL {P : PL} (hP : PlOK P) {p la a : Nat} (hp : S p = (17, 0)) (hp2 : 128 ≤ p) (hla : S la = (1, 64)) (hla2 : 128 ≤ la) (r4 : R p 4 = some la) (hL : LawS S R a (a + 1) (a + 2) (pL' P).length) (hne : pL' P ≠ []) (hac : a + 1 ≠ la) : ∀ (r g i : Nat) (I : mkI), i + r = pW P → r < g → I p 0 = nI (pW P) → (∀ j, j < (pL' P).length → I (a + 1) j = nI ((pL' P).getD j 0)) → ∃ I', F_X8_init_113 g (some p) (some a) (nI i) (mk S I L R n) = some (mk S I' L R n) ∧ (∀ x, x ≠ la → x ≠ a + 2 → I' x = I x) ∧ (∀ v j, i ≤ v → v < pW P → j < pW P → I' la (8 * v + j) = aLikes P (nI v) (nI j)) ∧ ∀ q, q < 8 * i → I' la q = I la q := by
  have w8 := hP.2.1
  have n1 : p ≠ la := fun e => by rw [e, hla] at hp; exact absurd (congrArg Prod.fst hp) (by decide)
  have n2 : p ≠ a + 2 := fun e => by rw [e, hL.2.2.2.2.1] at hp; exact absurd (congrArg Prod.fst hp) (by decide)
  intro r
  induction r with
  | zero =>
    intro g i I hi hg h0 hc
    obtain ⟨g, rfl⟩ : ∃ y, g = y + 1 := ⟨g - 1, by omega⟩
    refine ⟨I, ?_, fun _ _ _ => rfl, fun v j h1 h2 h3 => by omega, fun _ _ => rfl⟩
    simp only [F_X8_init_113]
    unfold F_X8_init_174
    rw [if_neg (by simp), mk_gI (c := 8) (by rw [hp]) rfl, Option.bind_some, h0, if_pos (nI_le (by omega) (by omega))]
  | succ r ih =>
    intro g i I hi hg h0 hc
    obtain ⟨g, rfl⟩ : ∃ y, g = y + 1 := ⟨g - 1, by omega⟩
    obtain ⟨I1, q1, q2, q3, q4⟩ := c_likI (L := L) (n := n) hP hp hp2 hla hla2 r4 hL hne hac (i := i) (by omega) (F_X8_init_113 g) (pW P) mm_N 0 I (by omega) (by show pW P < 1000000; omega) h0 hc
    obtain ⟨I2, s1, s2, s3, s4⟩ := ih g (i + 1) I1 (by omega) (by omega) (by rw [q2 _ n1 n2]; exact h0) (fun j hj => by rw [q2 _ hac (by omega)]; exact hc j hj)
    refine ⟨I2, ?_, fun x h1 h2 => by rw [s2 x h1 h2, q2 x h1 h2], fun v j h1 h2 h3 => ?_, fun q hq => ?_⟩
    · simp only [F_X8_init_113]
      rw [if_neg (by simp), mk_gI (c := 8) (by rw [hp]) rfl, Option.bind_some, h0, if_neg (nI_ge (by omega) (by omega)), show F_X8_init_128 (F_X8_init_113 g) mm_N (some p) (some a) (nI i) 0 (mk S I L R n) = _ from q1]
      exact s1
    · by_cases e : v = i
      · subst e
        rw [s4 _ (by omega)]
        exact q3 j (Nat.zero_le _) h3
      · exact s3 v j (by omega) h2 h3
    · rw [s4 q (by omega), q4 q (by omega)]
end APL
section APM
variable {S : mkS} {I : mkI} {L : mkL} {R : mkR} {z s : Nat}
theorem Gr.tr {z z' : Nat} {S S' S'' : mkS} {I I' I'' : mkI} {L L' L'' : mkL} {R R' R'' : mkR} (h : Gr z S S' I I' L L' R R') (h2 : Gr z' S' S'' I' I'' L' L'' R' R'') (hz : z ≤ z') : Gr z S S'' I I'' L L'' R R'' := fun a ha => by
  obtain ⟨a1, a2, a3, a4⟩ := h a ha
  obtain ⟨b1, b2, b3, b4⟩ := h2 a (by omega)
  exact ⟨b1.trans a1, b2.trans a2, b3.trans a3, b4.trans a4⟩
theorem St.gr {z : Nat} {S S' : mkS} {I I' : mkI} {L L' : mkL} {R R' : mkR} (hs : St S R) (hz : 221 ≤ z) (g : Gr z S S' I I' L L' R R') : St S' R' := hs.gr9 (fun a ha => (g a (by omega)).1) (fun a ha _ _ => (g a (by omega)).2.2.2)
theorem DfC.gr {z : Nat} {S S' : mkS} {I I' : mkI} {L L' : mkL} {R R' : mkR} {D : DR} {l : List Nat} (h : DfC D l I) (hz : 221 ≤ z) (g : Gr z S S' I I' L L' R R') : DfC D l I' := by
  unfold DfC at h ⊢
  rw [(g 163 (by omega)).2.1, (g 165 (by omega)).2.1, (g 166 (by omega)).2.1, (g 168 (by omega)).2.1, (g 169 (by omega)).2.1]
  exact h
theorem al_plan {D : DR} {l : List Nat} (hs : St S R) (hD : DfC D l I) (hG : DG D) (hl : l.length ≤ 898) (hc : ∀ j, j < l.length → I 167 j = nI (l.getD j 0)) (h0 : ∀ a, z ≤ a → S a = (0, 0)) (h221 : 221 ≤ z) (hLW : LW S) (h1 : z + 12 ≤ mm_capC) (h2 : s + 2876 ≤ mm_capS) : ∃ S1 I1 L1 R1 S' I' L' R' z' s', nO (mk S I L R (z, s)) 8 [.int 0, .int 0, .int 0, .null, .null, .null, .null] 7 = some (some z, mk S1 I1 L1 R1 (z + 1, s + 7)) ∧ Gr z S S1 I I1 L L1 R R1 ∧ F_X8_init (some z) (some 163) (mk S1 I1 L1 R1 (z + 1, s + 7)) = some (mk S' I' L' R' (z', s')) ∧ CPlan (PD D) S' R' I' z ∧ Gr z S S' I I' L L' R R' ∧ (∀ a, z' ≤ a → S' a = (0, 0)) ∧ z ≤ z' ∧ z' ≤ z + 12 ∧ s' ≤ s + 2876 ∧ LW S' := by
  have hP := PD_ok hG
  obtain ⟨⟨d1, d2, d3, d4, d5, d6⟩, ⟨d7, d8, d9⟩, -⟩ := id hD
  -- the Plan
  obtain ⟨S1, hS1⟩ : ∃ S1, S1 = up1 S z (17, 0) := ⟨_, rfl⟩
  obtain ⟨I1, hI1⟩ : ∃ I1 : mkI, I1 = up1 I z (fun _ => 0) := ⟨_, rfl⟩
  obtain ⟨L1, hL1⟩ : ∃ L1 : mkL, L1 = up1 L z (fun _ => 0) := ⟨_, rfl⟩
  obtain ⟨R1, hR1⟩ : ∃ R1 : mkR, R1 = up1 R z (fun _ => none) := ⟨_, rfl⟩
  have eA : nO (mk S I L R (z, s)) 8 [.int 0, .int 0, .int 0, .null, .null, .null, .null] 7 = some (some z, mk S1 I1 L1 R1 (z + 1, s + 7)) := by
    rw [hS1, hI1, hL1, hR1]; exact mk_hN (n := (z, s)) (17, 0) (fun _ => 0) (fun _ => 0) (fun _ => none) rfl (by show z + 1 ≤ _; omega) (by show s + 7 ≤ _; omega)
  have g1 : Gr z S S1 I I1 L L1 R R1 := fun a ha => ⟨by rw [hS1, up1_ne _ _ (by omega)], by rw [hI1, up1_ne _ _ (by omega)], by rw [hL1, up1_ne _ _ (by omega)], by rw [hR1, up1_ne _ _ (by omega)]⟩
  -- reach
  obtain ⟨S2, hS2⟩ : ∃ S2, S2 = up1 S1 (z + 1) (1, 3) := ⟨_, rfl⟩
  obtain ⟨I2, hI2⟩ : ∃ I2 : mkI, I2 = up1 I1 (z + 1) (fun _ => 0) := ⟨_, rfl⟩
  obtain ⟨L2, hL2⟩ : ∃ L2 : mkL, L2 = up1 L1 (z + 1) (fun _ => 0) := ⟨_, rfl⟩
  obtain ⟨R2, hR2⟩ : ∃ R2 : mkR, R2 = up1 R1 (z + 1) (fun _ => none) := ⟨_, rfl⟩
  have eB : nI_ (mk S1 I1 L1 R1 (z + 1, s + 7)) 0 (3 : Int32) = some (some (z + 1), mk S2 I2 L2 R2 (z + 2, s + 10)) := by
    rw [hS2, hI2, hL2, hR2]; exact nJ_z (N := 3) (by decide) (by omega) (by omega)
  have sz2 : S2 z = (17, 0) := by rw [hS2, up1_ne _ _ (by omega), hS1, up1_self]
  obtain ⟨R3, hR3⟩ : ∃ R3 : mkR, R3 = up2 R2 z 3 (some (z + 1)) := ⟨_, rfl⟩
  -- liking
  obtain ⟨S4, hS4⟩ : ∃ S4, S4 = up1 S2 (z + 2) (1, 64) := ⟨_, rfl⟩
  obtain ⟨I4, hI4⟩ : ∃ I4 : mkI, I4 = up1 I2 (z + 2) (fun _ => 0) := ⟨_, rfl⟩
  obtain ⟨L4, hL4⟩ : ∃ L4 : mkL, L4 = up1 L2 (z + 2) (fun _ => 0) := ⟨_, rfl⟩
  obtain ⟨R4, hR4⟩ : ∃ R4 : mkR, R4 = up1 R3 (z + 2) (fun _ => none) := ⟨_, rfl⟩
  have eC : nI_ (mk S2 I2 L2 R3 (z + 2, s + 10)) 0 (64 : Int32) = some (some (z + 2), mk S4 I4 L4 R4 (z + 3, s + 74)) := by
    rw [hS4, hI4, hL4, hR4]; exact nJ_z (N := 64) (by decide) (by omega) (by omega)
  have sz4 : S4 z = (17, 0) := by rw [hS4, up1_ne _ _ (by omega), sz2]
  have sz41 : S4 (z + 1) = (1, 3) := by rw [hS4, up1_ne _ _ (by omega), hS2, up1_self]
  have sz42 : S4 (z + 2) = (1, 64) := by rw [hS4, up1_self]
  obtain ⟨R5, hR5⟩ : ∃ R5 : mkR, R5 = up2 R4 z 4 (some (z + 2)) := ⟨_, rfl⟩
  obtain ⟨I5, hI5⟩ : ∃ I5 : mkI, I5 = up2 (up2 (up2 I4 z 0 (nI (dW D))) z 1 (nI (dK D))) z 2 (nI (dT D)) := ⟨_, rfl⟩
  have g4 : Gr z S S4 I I4 L L4 R R5 := fun a ha => by
    obtain ⟨b1, b2, b3, b4⟩ := g1 a ha
    exact ⟨by rw [hS4, up1_ne _ _ (by omega), hS2, up1_ne _ _ (by omega), b1], by rw [hI4, up1_ne _ _ (by omega), hI2, up1_ne _ _ (by omega), b2], by rw [hL4, up1_ne _ _ (by omega), hL2, up1_ne _ _ (by omega), b3], by rw [hR5, up2_ne _ _ _ (by omega), hR4, up1_ne _ _ (by omega), hR3, up2_ne _ _ _ (by omega), hR2, up1_ne _ _ (by omega), b4]⟩
  have g5 : Gr z S S4 I I5 L L4 R R5 := fun a ha => by
    obtain ⟨b1, b2, b3, b4⟩ := g4 a ha
    exact ⟨b1, by rw [hI5, up2_ne _ _ _ (by omega), up2_ne _ _ _ (by omega), up2_ne _ _ _ (by omega), b2], b3, b4⟩
  have hs4 := hs.gr h221 g4
  have hD4 := hD.gr h221 g4
  have r53 : R5 z 3 = some (z + 1) := by rw [hR5, up2_row, up1_ne _ _ (by decide), hR4, up1_ne _ _ (by omega), hR3, up2_self]
  have r54 : R5 z 4 = some (z + 2) := by rw [hR5, up2_self]
  have i50 : I5 z 0 = nI (dW D) := by rw [hI5, up2_row, up1_ne _ _ (by decide), up2_row, up1_ne _ _ (by decide), up2_self]
  have i51 : I5 z 1 = nI (dK D) := by rw [hI5, up2_row, up1_ne _ _ (by decide), up2_self]
  have i52 : I5 z 2 = nI (dT D) := by rw [hI5, up2_self]
  have i52' : I5 (z + 2) = fun _ => 0 := by rw [hI5, up2_ne _ _ _ (by omega), up2_ne _ _ _ (by omega), up2_ne _ _ _ (by omega), hI4, up1_self]
  obtain ⟨I6, u1, u2, u3⟩ := c_reachL (L := L4) (n := (z + 3, s + 74)) hs4 hG sz4 h221 sz41 (by omega) (by omega) r53 (dK D) mm_N 0 I5 (by omega) (by show dK D < 1000000; omega) (hD.gr h221 g5) i51 (fun j hj => absurd hj (Nat.not_lt_zero _))
  have g6 : Gr z S S4 I I6 L L4 R R5 := fun a ha => by
    obtain ⟨b1, b2, b3, b4⟩ := g5 a ha
    exact ⟨b1, by rw [u3 a (by omega), b2], b3, b4⟩
  have f4 : ∀ a, z + 3 ≤ a → S4 a = (0, 0) := fun a ha => by rw [hS4, up1_ne _ _ (by omega), hS2, up1_ne _ _ (by omega), hS1, up1_ne _ _ (by omega)]; exact h0 a (by omega)
  have lw4 : LW S4 := fun a ha => by
    have haz : a < z := by
      refine Nat.lt_of_not_le (fun q => ?_)
      rcases (show a = z ∨ a = z + 1 ∨ a = z + 2 ∨ z + 3 ≤ a by omega) with e | e | e | e
      · rw [e, sz4] at ha; exact absurd (congrArg Prod.fst ha) (by decide)
      · rw [e, sz41] at ha; exact absurd (congrArg Prod.fst ha) (by decide)
      · rw [e, sz42] at ha; exact absurd (congrArg Prod.fst ha) (by decide)
      · rw [f4 a e] at ha; exact absurd (congrArg Prod.fst ha) (by decide)
    rw [(g4 a haz).1] at ha
    obtain ⟨l1, l2⟩ := hLW a ha
    have z1 : a + 1 < z := lt_sh h0 (fun e => by rw [e] at l1; exact absurd l1 (by decide))
    have z2 : a + 2 < z := lt_sh h0 (fun e => by rw [e] at l2; exact absurd l2 (by decide))
    rw [(g4 _ z1).1, (g4 _ z2).1]; exact ⟨l1, l2⟩
  have hc6 : ∀ {J : mkI}, J 167 = I 167 → ∀ j, j < l.length → J 167 j = nI (l.getD j 0) := fun h j hj => by rw [h]; exact hc j hj
  -- slips
  have hs6 := hs.gr h221 g6
  obtain ⟨ra, Sa, Ia, La, Ra, za, sa, a1, a2, a3, a4, a5, a6, a7, a8⟩ := al_law (L := L4) (z := z + 3) (s := s + 74) (w := 0) hs6 (by decide) (hD.gr h221 g6) hl (hc6 (g6 _ (by omega)).2.1) f4 (by omega) lw4 (by omega) (by omega)
  obtain ⟨Rb, hRb⟩ : ∃ Rb : mkR, Rb = up2 Ra z 5 ra := ⟨_, rfl⟩
  have ga : Gr z S Sa I Ia L La R Rb := fun a ha => by
    obtain ⟨b1, b2, b3, b4⟩ := g6.tr a3 (by omega) a ha
    exact ⟨b1, b2, b3, by rw [hRb, up2_ne _ _ _ (by omega), b4]⟩
  have sza : Sa z = (17, 0) := by rw [(a3 z (by omega)).1, sz4]
  -- marries
  have hsb := hs.gr h221 ga
  obtain ⟨rb, Sb, Ib, Lb, Rc, zb, sb', b1, b2, b3, b4, b5, b6, b7, b8⟩ := al_law (L := La) (z := za) (s := sa) (w := 2) hsb (by decide) (hD.gr h221 ga) hl (hc6 (ga _ (by omega)).2.1) a4 (by omega) a8.1 (by omega) (by omega)
  obtain ⟨Rd, hRd⟩ : ∃ Rd : mkR, Rd = up2 Rc z 6 rb := ⟨_, rfl⟩
  have gb : Gr z S Sb I Ib L Lb R Rd := fun a ha => by
    obtain ⟨c1, c2, c3, c4⟩ := ga.tr b3 (by omega) a ha
    exact ⟨c1, c2, c3, by rw [hRd, up2_ne _ _ _ (by omega), c4]⟩
  have szb : Sb z = (17, 0) := by rw [(b3 z (by omega)).1, sza]
  -- likes
  have hsd := hs.gr h221 gb
  obtain ⟨rc, Sc, Ic, Lc, Re, zc, sc, c1, c2, c3, c4, c5, c6, c7, c8⟩ := al_law (L := Lb) (z := zb) (s := sb') (w := 1) hsd (by decide) (hD.gr h221 gb) hl (hc6 (gb _ (by omega)).2.1) b4 (by omega) b8.1 (by omega) (by omega)
  have gc : Gr z S Sc I Ic L Lc R Re := gb.tr c3 (by omega)
  have szc : Sc z = (17, 0) := by rw [(c3 z (by omega)).1, szb]
  have below : ∀ a, a < z + 3 → Sc a = S4 a ∧ Ic a = I6 a ∧ (a ≠ z → Re a = R5 a) := fun a ha => by
    have e1 := a3 a (by omega)
    have e2 := b3 a (by omega)
    have e3 := c3 a (by omega)
    refine ⟨by rw [e3.1, e2.1, e1.1], by rw [e3.2.1, e2.2.1, e1.2.1], fun h => ?_⟩
    rw [e3.2.2.2, hRd, up2_ne _ _ _ h, e2.2.2.2, hRb, up2_ne _ _ _ h, e1.2.2.2]
  have rz : Re z = up1 (up1 (R5 z) 5 ra) 6 rb := by
    rw [(c3 z (by omega)).2.2.2, hRd, up2_row, (b3 z (by omega)).2.2.2, hRb, up2_row, (a3 z (by omega)).2.2.2]
  -- laws in the grown heap
  have la0 : CLaw Sb Rd Ib ra (dL D 0) := by
    have q1 : CLaw Sa Rb Ia ra (dL D 0) := a2.x (fun _ _ => rfl) (fun a ha => by
      rw [hRb, up2_ne _ _ _ (fun e => by rw [e, sza] at ha; exact absurd (congrArg Prod.fst ha) (by decide))])
    exact (q1.gr a4 b3).x (fun _ _ => rfl) (fun a ha => by
      rw [hRd, up2_ne _ _ _ (fun e => by rw [e, szb] at ha; exact absurd (congrArg Prod.fst ha) (by decide))])
  have la1 : CLaw Sc Re Ic ra (dL D 0) := la0.gr b4 c3
  have lb1 : CLaw Sc Re Ic rb (dL D 2) := by
    refine CLaw.gr b4 c3 (b2.x (fun _ _ => rfl) (fun a ha => ?_))
    rw [hRd, up2_ne _ _ _ (fun e => by rw [e, szb] at ha; exact absurd (congrArg Prod.fst ha) (by decide))]
  have ic0 : Ic z 0 = nI (dW D) := by rw [(below z (by omega)).2.1, u3 z (by omega), i50]
  have ic1 : Ic z 1 = nI (dK D) := by rw [(below z (by omega)).2.1, u3 z (by omega), i51]
  have ic2 : Ic z 2 = nI (dT D) := by rw [(below z (by omega)).2.1, u3 z (by omega), i52]
  -- what the likes fill
  have lik : ∃ I', F_X8_init_113 mm_N (some z) rc 0 (mk Sc Ic Lc Re (zc, sc)) = some (mk Sc I' Lc Re (zc, sc)) ∧ (∀ x, x < z + 2 → I' x = Ic x) ∧ (∀ a, Sc a = (14, 0) → I' (a + 1) = Ic (a + 1)) ∧ ∀ i j, i < dW D → j < dW D → I' (z + 2) (8 * i + j) = aLikes (PD D) (nI i) (nI j) := by
    rcases c2 with ⟨y1, y2⟩ | ⟨y1, a, y2, y3, y4, y5⟩
    · refine ⟨Ic, ?_, fun _ _ => rfl, fun _ _ => rfl, fun i j _ _ => ?_⟩
      · obtain ⟨g, hg⟩ : ∃ g, mm_N = g + 1 := ⟨mm_N - 1, by unfold mm_N; omega⟩
        rw [hg, y2]
        simp only [F_X8_init_113]
        unfold F_X8_init_174
        rw [if_pos trivial]
      · unfold aLikes
        rw [if_pos (show pL' (PD D) = [] from y1), (below (z + 2) (by omega)).2.1, u3 (z + 2) (by omega), i52']
    · have haz : a = zb := by
        rcases c8.2 with q | q
        · rw [q] at y2; exact absurd y2 (by simp)
        · rw [q] at y2; exact (Option.some.inj y2).symm
      obtain ⟨I', v1, v2, v3, -⟩ := c_likL (L := Lc) (n := (zc, sc)) hP szc (by omega) (show Sc (z + 2) = (1, 64) by rw [(below (z + 2) (by omega)).1, sz42]) (by omega) (show Re z 4 = some (z + 2) by rw [rz, up1_ne _ _ (by decide), up1_ne _ _ (by decide), r54]) y4 y1 (by omega) (dW D) mm_N 0 Ic (by show 0 + dW D = dW D; omega) (by show dW D < 1000000; omega) ic0 y5
      refine ⟨I', by rw [y2]; exact v1, fun x hx => v2 x (by omega) (by omega), fun b hb => v2 _ ?_ ?_, fun i j hi hj => v3 i j (Nat.zero_le _) hi hj⟩
      · intro e
        rw [show b = z + 1 by omega, (below (z + 1) (by omega)).1, sz41] at hb
        exact absurd (congrArg Prod.fst hb) (by decide)
      · intro e
        rw [show b = a + 1 by omega, y4.2.2.2.1] at hb
        exact absurd (congrArg Prod.fst hb) (show (1 : Nat) ≠ 14 by decide)
  obtain ⟨I', v1, v2, v3, v4⟩ := lik
  refine ⟨S1, I1, L1, R1, Sc, I', Lc, Re, zc, sc, eA, g1, ?_, ⟨szc, .inr h221, ⟨?_, ?_, ?_⟩, ⟨z + 1, ?_, .inr (by omega), ?_, fun k hk => ?_⟩, ⟨z + 2, ?_, .inr (by omega), ?_, v4⟩, ?_, ?_⟩, fun a ha => ?_, c4, by omega, by omega, by omega, c8.1⟩
  · have hs5 : St S4 R4 := hs.gr9 (fun a ha => (g4 a (by omega)).1) (fun a ha _ _ => by
      have := (g4 a (by omega)).2.2.2
      rw [hR5, up2_ne _ _ _ (by omega)] at this
      exact this)
    obtain ⟨g, hg⟩ : ∃ g, mm_N - dK D = g + 1 := ⟨mm_N - dK D - 1, by show 1000000 - dK D = 1000000 - dK D - 1 + 1; omega⟩
    unfold F_X8_init
    rw [Option.bind_some, eB, b2_some, mk_pR (c := 8) (by rw [sz2]) rfl (by omega), Option.bind_some, ← hR3, eC, b2_some, mk_pR (c := 8) (by rw [sz4]) rfl (by omega), Option.bind_some, ← hR5]
    rw [cv_163 hs4, pr_6 hs4 hD4.1.1, b2_some, show mxI (2 : Int32) (mnI (8 : Int32) (nI (dW D))) = nI (dW D) by rw [show (8 : Int32) = nI 8 from rfl, mnI_nI (by omega) (by omega), Nat.min_eq_right d5, show (2 : Int32) = nI 2 from rfl, mxI_nI (by omega) (by omega), Nat.max_eq_right d4], mk_pI (c := 8) (by rw [sz4]) rfl (by omega), Option.bind_some]
    rw [cv_163 hs4, pr_7 hs4 (v := nI (dK D)) (by rw [up2_ne _ _ _ (by omega)]; exact hD4.2.1.1), b2_some, show mxI (0 : Int32) (mnI (3 : Int32) (nI (dK D))) = nI (dK D) by rw [show (3 : Int32) = nI 3 from rfl, mnI_nI (by omega) (by omega), Nat.min_eq_right d8, show (0 : Int32) = nI 0 from rfl, mxI_nI (by omega) (by omega), Nat.max_eq_right (Nat.zero_le _)], mk_pI (c := 8) (by rw [sz4]) rfl (by omega), Option.bind_some]
    rw [cv_163 hs4, pr_10 hs4 (v := nI (dT D)) (by rw [up2_ne _ _ _ (by omega), up2_ne _ _ _ (by omega)]; exact hD4.1.2.2.1), b2_some, mk_pI (c := 8) (by rw [sz4]) rfl (by omega), Option.bind_some, ← hI5, show F_X8_init_62 mm_N (some z) (some 163) 0 (mk S4 I5 L4 R5 (z + 3, s + 74)) = _ from u1, hg]
    simp only [F_X8_init_62]
    rw [mk_gI (c := 8) (by rw [sz4]) rfl, Option.bind_some, u3 z (by omega), i51, if_pos (nI_le (Nat.le_refl _) (by omega)), cv_163 hs6, show F_X7_lawOf (some 163) 0 (mk S4 I6 L4 R5 (z + 3, s + 74)) = _ from a1, b2_some, mk_pR (c := 8) (by rw [sza]) rfl (by omega), Option.bind_some, ← hRb, cv_163 hsb, show F_X7_lawOf (some 163) 2 (mk Sa Ia La Rb (za, sa)) = _ from b1, b2_some, mk_pR (c := 8) (by rw [szb]) rfl (by omega), Option.bind_some, ← hRd, cv_163 hsd, show F_X7_lawOf (some 163) 1 (mk Sb Ib Lb Rd (zb, sb')) = _ from c1, b2_some]
    exact v1
  · rw [v2 z (by omega), ic0]; rfl
  · rw [v2 z (by omega), ic1]; rfl
  · rw [v2 z (by omega), ic2]; rfl
  · rw [rz, up1_ne _ _ (by decide), up1_ne _ _ (by decide), r53]
  · rw [(below (z + 1) (by omega)).1, sz41]
  · rw [v2 (z + 1) (by omega), (below (z + 1) (by omega)).2.1]
    exact u2 k hk
  · rw [rz, up1_ne _ _ (by decide), up1_ne _ _ (by decide), r54]
  · rw [(below (z + 2) (by omega)).1, sz42]
  · rw [rz, up1_ne _ _ (by decide), up1_self]
    exact la1.x v3 (fun _ _ => rfl)
  · rw [rz, up1_self]
    exact lb1.x v3 (fun _ _ => rfl)
  · obtain ⟨w1, w2, w3, w4⟩ := gc a ha
    exact ⟨w1, by rw [v2 a (by omega), w2], w3, w4⟩
end APM
