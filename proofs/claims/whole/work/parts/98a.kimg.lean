/-! image: both sides -/
theorem St.gr9 {S S' : mkS} {R R' : mkR} (hs : St S R) (h1 : ∀ a, a < 221 → S' a = S a) (h2 : ∀ a, a < 221 → a ≠ 132 → a ≠ 133 → R' a = R a) : St S' R' := by
  have keyS : ∀ q ∈ stS, q.1 < 221 := by decide +kernel
  have keyR : ∀ q ∈ stR, q.1 < 221 ∧ q.1 ≠ 132 ∧ q.1 ≠ 133 := by decide +kernel
  refine ⟨fun q hq => by rw [h1 _ (keyS q hq)]; exact hs.1 q hq, fun q hq => ?_⟩
  obtain ⟨k1, k2, k3⟩ := keyR q hq
  rw [h2 _ k1 k2 k3]; exact hs.2 q hq
section KI
variable {S : mkS} {I : mkI} {L : mkL} {R : mkR} {n : Nat × Nat} {tb : Nat → Nat} {tn : Nat} {fk fp : Int32} {w : WD} {tr : TR} {im : IM} {k : Nat}
theorem x_img55 {i z : Nat} (hs : St S R) (hi : i < 3) (hb : R 132 i = some z) (hd : R 133 i = some (z + 8)) (h1 : BdS S R z (z + 1) (z + 2)) (h5 : DdS S R (z + 8) (z + 9)) (hw : CW w S R I 170 174 175 130 131) (hz : 221 ≤ z) : ∃ I' R', F_X11_image_55 (some 128) (nI i) (mk S I L R n) = some (.inr (), mk S I' L R' n) ∧ (∀ x, x ≠ z + 1 → x ≠ z + 8 → x ≠ z + 9 → I' x = I x) ∧ (∀ x, x ≠ z → R' x = R x) ∧ CW w S R' I' z (z + 1) (z + 2) (z + 8) (z + 9) := by
  obtain ⟨I1, I', R', q1, q2, q3, q4, q5, q6⟩ := c_cpW (L := L) (n := n) h1 h5 hw (show z ≠ 170 by omega) (show 130 ≠ z + 8 by omega) (show z + 1 ≠ 131 by omega) (by rw [Nat.add_sub_cancel, h1.1]; decide) (by rw [show z + 9 - 1 = z + 8 by omega, h5.1]; decide)
  have hs' : St S R' := hs.gr9 (fun _ _ => rfl) (fun a ha _ _ => q4 a (by omega))
  refine ⟨I', R', ?_, q3, q4, q6⟩
  unfold F_X11_image_55
  rw [gr_128_8 hs, Option.bind_some, ar_132 hs hi, Option.bind_some, hb, gr_128_5 hs, Option.bind_some, bd_v h1, q1, Option.bind_some, gr_128_9 hs', Option.bind_some, ar_133 hs' hi, Option.bind_some, gr_128_6 hs', Option.bind_some, q4 133 (by show 133 ≠ z; omega), hd, dd_v q6.2.2.2.1, q2, Option.bind_some]
set_option maxRecDepth 8000 in
theorem x_img22 (hC : InvC tb tn fk fp w tr im (k + 1) S I L R n) {i : Nat} (hi : i < 3) (him : im i = none) : ∃ S' I' L' R' n', F_X11_image_22 (some 128) (nI i) (mk S I L R n) = some (.inr (), mk S' I' L' R' n') ∧ (∀ a, a < 221 → S' a = S a ∧ I' a = I a ∧ L' a = L a ∧ (a ≠ 132 → a ≠ 133 → R' a = R a)) ∧ InvC tb tn fk fp w tr (imUp im i w) k S' I' L' R' n' := by
  obtain ⟨⟨hs, hLW, h0, h221, hc1, hc2⟩, -, -, hW, -, hIm, -⟩ := id hC
  obtain ⟨z, s⟩ := n
  simp only at h0 h221 hc1 hc2
  obtain ⟨hbd, ⟨p, hpl, hp⟩, -⟩ := id hW
  -- the board
  obtain ⟨Sa, hSa⟩ : ∃ Sa, Sa = up1 S z (9, 0) := ⟨_, rfl⟩
  obtain ⟨Ia, hIa⟩ : ∃ Ia : mkI, Ia = up1 I z (fun _ => 0) := ⟨_, rfl⟩
  obtain ⟨La, hLa⟩ : ∃ La : mkL, La = up1 L z (fun _ => 0) := ⟨_, rfl⟩
  obtain ⟨Ra, hRa⟩ : ∃ Ra : mkR, Ra = up1 R z (fun _ => none) := ⟨_, rfl⟩
  have eA : nO (mk S I L R (z, s)) 0 [.null, .null, .null] 3 = some (some z, mk Sa Ia La Ra (z + 1, s + 3)) := by
    rw [hSa, hIa, hLa, hRa]; exact mk_nBd (n := (z, s)) (by show z + 1 ≤ _; omega) (by show s + 3 ≤ _; omega)
  have sA : ∀ a, a < z → Sa a = S a := fun a ha => by rw [hSa, up1_ne _ _ (by omega)]
  have iA : ∀ a, a < z → Ia a = I a := fun a ha => by rw [hIa, up1_ne _ _ (by omega)]
  have lA : ∀ a, a < z → La a = L a := fun a ha => by rw [hLa, up1_ne _ _ (by omega)]
  have rA : ∀ a, a < z → Ra a = R a := fun a ha => by rw [hRa, up1_ne _ _ (by omega)]
  have hsA : St Sa Ra := hs.gr9 (fun a ha => sA a (by omega)) (fun a ha _ _ => rA a (by omega))
  obtain ⟨Sb, Ib, Lb, Rb, b1, ⟨b2, b3, b4, b5⟩, b6⟩ := al_board (S := Sa) (I := Ia) (L := La) (R := Ra) (b := z) (z := z + 1) (s := s + 3) (pl := some p) (by rw [hSa, up1_self]) (by omega) (by omega) (by omega) (by omega)
  obtain ⟨Ic, c1, c2, -⟩ := c_clear (L := Lb) (n := (z + 1 + 7, s + 3 + 119)) b6 Ib
  have b1' : F_X0_init (some z) (some p) (mk Sa Ia La Ra (z + 1, s + 3)) = some (mk Sb Ic Lb Rb (z + 8, s + 122)) := by
    rw [b1, bd_v b6, c1]
  have rB : ∀ a, a < z → Rb a = R a := fun a ha => by rw [(b3 a (by omega) (by omega)).2.2, rA a ha]
  have sB : ∀ a, a < z → Sb a = S a := fun a ha => by rw [b2 a (by omega), sA a ha]
  have hsB : St Sb Rb := hs.gr9 (fun a ha => sB a (by omega)) (fun a ha _ _ => rB a (by omega))
  -- the deeds
  obtain ⟨Sc, hSc⟩ : ∃ Sc, Sc = up1 Sb (z + 8) (12, 0) := ⟨_, rfl⟩
  obtain ⟨Id, hId⟩ : ∃ Id : mkI, Id = up1 Ic (z + 8) (fun _ => 0) := ⟨_, rfl⟩
  obtain ⟨Lc, hLc⟩ : ∃ Lc : mkL, Lc = up1 Lb (z + 8) (fun _ => 0) := ⟨_, rfl⟩
  obtain ⟨Rc, hRc⟩ : ∃ Rc : mkR, Rc = up1 (up2 Rb 132 i (some z)) (z + 8) (fun _ => none) := ⟨_, rfl⟩
  have eC : nO (mk Sb Ic Lb (up2 Rb 132 i (some z)) (z + 8, s + 122)) 3 [.null, .int 0, .int 0] 3 = some (some (z + 8), mk Sc Id Lc Rc (z + 9, s + 125)) := by
    rw [hSc, hId, hLc, hRc]; exact mk_nDd (n := (z + 8, s + 122)) (by show z + 8 + 1 ≤ _; omega) (by show s + 122 + 3 ≤ _; omega)
  have rC : ∀ a, a < z → a ≠ 132 → Rc a = R a := fun a ha hb => by rw [hRc, up1_ne _ _ (by omega), up2_ne _ _ _ hb, rB a ha]
  have sC : ∀ a, a < z → Sc a = S a := fun a ha => by rw [hSc, up1_ne _ _ (by omega), sB a ha]
  have q935 : s + 125 + 810 ≤ mm_capS := by
    have y1 : s + 125 + 810 ≤ s + 8000 * (k + 1) := by omega
    exact Nat.le_trans y1 hc2
  obtain ⟨Sd, Ie, Ld, Rd, d1, ⟨d2, d3, d4, d5⟩, d6⟩ := al_deeds (S := Sc) (I := Id) (L := Lc) (R := Rc) (b := z + 8) (z := z + 9) (s := s + 125) (by rw [hSc, up1_self]) (show 128 ≤ z + 8 by omega) (show z + 8 < z + 9 by omega) (show z + 9 + 1 ≤ mm_capC by omega) q935
  have rD : ∀ a, a < z → a ≠ 132 → Rd a = R a := fun a ha hb => by rw [(d3 a (by omega) (by omega)).2.2, rC a ha hb]
  have sD : ∀ a, a < z → Sd a = S a := fun a ha => by rw [d2 a (by omega), sC a ha]
  have iD : ∀ a, a < z → Ie a = I a := fun a ha => by rw [(d3 a (by omega) (by omega)).1, hId, up1_ne _ _ (by omega), c2 a (by omega), (b3 a (by omega) (by omega)).1, iA a ha]
  have lD : ∀ a, a < z → Ld a = L a := fun a ha => by rw [(d3 a (by omega) (by omega)).2.1, hLc, up1_ne _ _ (by omega), (b3 a (by omega) (by omega)).2.1, lA a ha]
  obtain ⟨Re, hRe⟩ : ∃ Re : mkR, Re = up2 Rd 133 i (some (z + 8)) := ⟨_, rfl⟩
  have rE : ∀ a, a ≠ 133 → Re a = Rd a := fun a ha => by rw [hRe, up2_ne _ _ _ ha]
  have hsD : St Sd Rd := hs.gr9 (fun a ha => sD a (by omega)) (fun a ha h _ => rD a (by omega) h)
  have hsE : St Sd Re := hs.gr9 (fun a ha => sD a (by omega)) (fun a ha h h2 => by rw [rE a h2, rD a (by omega) h])
  have kb : ∀ a, z ≤ a → a < z + 8 → Sd a = Sb a := fun a h1 h2 => by rw [d2 a (by omega), hSc, up1_ne _ _ (by omega)]
  have kr : ∀ a, z ≤ a → a < z + 8 → Re a = Rb a := fun a h1 h2 => by
    rw [rE a (by show a ≠ 133; omega), (d3 a (by omega) (by omega)).2.2, hRc, up1_ne _ _ (by omega), up2_ne _ _ _ (by show a ≠ 132; omega)]
  have bE : BdS Sd Re z (z + 1) (z + 2) := by
    obtain ⟨e1, e2, e3, e4, e5, e6⟩ := b6
    exact ⟨by rw [kb z (by omega) (by omega)]; exact e1, by rw [kr z (by omega) (by omega)]; exact e2, by rw [kr z (by omega) (by omega)]; exact e3, by rw [kb _ (by omega) (by omega)]; exact e4, e5, e6⟩
  have dE : DdS Sd Re (z + 8) (z + 9) := by
    obtain ⟨e1, e2, e3, e4, e5⟩ := d6
    exact ⟨e1, e2, by rw [rE _ (by show z + 8 ≠ 133; omega)]; exact e3, e4, e5⟩
  -- the heap as it has grown
  obtain ⟨Rg, hRg⟩ : ∃ Rg : mkR, Rg = fun a => if a = 132 ∨ a = 133 then R a else Re a := ⟨_, rfl⟩
  have g1 : ∀ a, a ≠ 132 → a ≠ 133 → Re a = Rg a := fun a h1 h2 => by rw [hRg]; exact (if_neg (fun q => q.elim h1 h2)).symm
  have g2 : Rg 132 = R 132 ∧ Rg 133 = R 133 := by rw [hRg]; exact ⟨if_pos (.inl rfl), if_pos (.inr rfl)⟩
  have hG : Gr z S Sd I Ie L Ld R Rg := fun a ha => ⟨sD a ha, iD a ha, lD a ha, by
    by_cases h1 : a = 132
    · rw [h1]; exact g2.1
    · by_cases h2 : a = 133
      · rw [h2]; exact g2.2
      · rw [← g1 a h1 h2, rE a h2, rD a ha h1]⟩
  have n14 : ∀ a, z ≤ a → Sd a ≠ (14, 0) := fun a ha => by
    by_cases h1 : a < z + 8
    · rw [kb a ha h1]
      by_cases h2 : a = z
      · rw [h2, b6.1]; decide
      · exact b5 a (by omega) (by omega)
    · by_cases h2 : a = z + 8
      · rw [h2, d6.1]; decide
      · by_cases h3 : a < z + 10
        · exact d5 a (by omega) (by omega)
        · rw [d4 a (by omega), hSc, up1_ne _ _ (by omega), b4 a (by omega), hSa, up1_ne _ _ (by omega), h0 a (by omega)]; decide
  have hLW' : LW Sd := fun a ha => by
    have haz : a < z := Nat.lt_of_not_le (fun q => n14 a q ha)
    rw [sD a haz] at ha
    obtain ⟨l1, l2⟩ := hLW a ha
    have z1 : a + 1 < z := lt_sh h0 (fun e => by rw [e] at l1; exact absurd l1 (by decide))
    have z2 : a + 2 < z := lt_sh h0 (fun e => by rw [e] at l2; exact absurd l2 (by decide))
    rw [sD _ z1, sD _ z2]; exact ⟨l1, l2⟩
  have hg : InvC tb tn fk fp w tr im k Sd Ie Ld Rg (z + 10, s + 935) := hC.gr hG hLW' (fun a (ha : z + 10 ≤ a) => by rw [d4 a (by omega), hSc, up1_ne _ _ (by omega), b4 a (by omega), hSa, up1_ne _ _ (by omega), h0 a (by omega)]) (by show z ≤ z + 10; omega) (by show z + 10 + 40 * k ≤ _; omega) (by show s + 935 + 8000 * k ≤ _; omega)
  have hWg : CW w Sd Re Ie 170 174 175 130 131 := hg.2.2.2.1.kk rfl rfl rfl (fun _ _ _ => rfl) (fun x hx => g1 x (fun e => by rw [e, S_132 hsE] at hx; simp at hx) (fun e => by rw [e, S_133 hsE] at hx; simp at hx)) (g1 _ (by decide) (by decide)) (g1 _ (by decide) (by decide))
  have rbi : ∀ j, Re 132 j = if j = i then some z else R 132 j := fun j => by
    rw [rE _ (by decide), (d3 132 (by omega) (by omega)).2.2, hRc, up1_ne _ _ (by omega), up2_row]
    by_cases e : j = i
    · rw [e, up1_self, if_pos rfl]
    · rw [up1_ne _ _ e, if_neg e, rB 132 (by omega)]
  have rdi : ∀ j, Re 133 j = if j = i then some (z + 8) else R 133 j := fun j => by
    rw [hRe, up2_row]
    by_cases e : j = i
    · rw [e, up1_self, if_pos rfl]
    · rw [up1_ne _ _ e, if_neg e, rD 133 (by omega) (by decide)]
  obtain ⟨I', R', r1, r2, r3, r4⟩ := x_img55 (L := Ld) (n := (z + 10, s + 935)) hsE hi (by rw [rbi i, if_pos rfl]) (by rw [rdi i, if_pos rfl]) bE dE hWg h221
  refine ⟨Sd, I', Ld, R', (z + 10, s + 935), ?_, fun a ha => ⟨sD a (by omega), by rw [r2 a (by omega) (by omega) (by omega), iD a (by omega)], lD a (by omega), fun h1 h2 => by rw [r3 a (by omega), rE a h2, rD a (by omega) h1]⟩, ?_⟩
  · have hvz : ∀ {α : Type} (f : Nat → Option α), (some z : Option Nat).bind f = f z := fun f => rfl
    have sz9 : (Sb z).1 = 0 + 9 := by rw [b6.1]
    have sd12 : (Sd (z + 8)).1 = 3 + 9 := by rw [d6.1]
    have hbA : BdS Sa Ra 170 174 175 := by
      obtain ⟨e1, e2, e3, e4, e5, e6⟩ := hbd
      exact ⟨by rw [sA _ (by omega)]; exact e1, by rw [rA _ (by omega)]; exact e2, by rw [rA _ (by omega)]; exact e3, by rw [sA _ (by omega)]; exact e4, e5, e6⟩
    unfold F_X11_image_22
    rw [gr_128_8 hs, Option.bind_some, eA, b2_some, gr_128_5 hsA, Option.bind_some, bd_p hbA (by rw [rA _ (by omega)]; exact hpl), Option.bind_some, Option.bind_some, b1', Option.bind_some, mk_sR5 (S_132 hsB) sz9 hi (by decide) (by decide), Option.bind_some, gr_128_9 (hsB.gr9 (fun _ _ => rfl) (fun a _ h1 _ => up2_ne _ _ _ h1)), Option.bind_some, eC, b2_some, Option.bind_some, d1, Option.bind_some, mk_sR6 (S_133 hsD) sd12 hi (by decide) (by decide), Option.bind_some, ← hRe]
    exact r1
  · refine hg.im h221 (fun j hj e q => ?_) bE.1 bE.2.2.2.1 dE.1 dE.2.2.2.1 r2 (fun x h1 h2 h3 => by rw [r3 x h1, g1 x h2 h3]) (fun j _ => by rw [r3 _ (by omega), rbi j, g2.1]) (fun j _ => by rw [r3 _ (by omega), rdi j, g2.2]) r4
    rw [g2.1] at q
    have hj9 := hIm.2 j hj
    cases hij : im j with
    | none => rw [hij] at hj9; rw [hj9] at q; exact absurd q (by simp)
    | some w0 =>
      rw [hij] at hj9
      obtain ⟨a, a1, a2, a3, a4⟩ := hj9
      rw [a1] at q
      have ez : a = z := Option.some.inj q
      have := a4.1.1
      rw [ez, h0 z (Nat.le_refl _)] at this
      exact absurd this (by decide)
end KI
theorem k_image (Ls : Nat) (xs : Nat → Int32) (a : Int32) : GoodV Ls xs (F_L_image (some 128) a) (F_X12_image (some 197) a) := by
  intro k S I L R n ⟨hl, tb, tn, fk, fp, w, tr, im, hC, hR, hG⟩
  have hs := hC.1.1
  have e2 := fun h => e_in a 0 2 h
  rw [show (0 : Int32).toInt64 = 0 by decide, show (2 : Int32).toInt64 = 2 by decide] at e2
  have hin : wI a 0 2 = true ↔ ∃ j, 0 ≤ j ∧ j ≤ 2 ∧ a = nI j := wI_iff (lo := 0) (hi := 2) (by decide) (by decide)
  by_cases h1 : isL 3 a = true
  · obtain ⟨i, hi, rfl⟩ := (isL_iff (by decide)).mp h1
    have hw2 : wI (nI i) 0 2 = true := hin.mpr ⟨i, by omega, by omega, rfl⟩
    have hc := hC.2.2.2.2.2.1.2 i hi
    -- the class
    have cls : ∃ S' I' L' R' n', F_X11_image (some 128) (nI i) (mk S I L R n) = some (.inr (), mk S' I' L' R' n') ∧ (∀ a, a < 221 → S' a = S a ∧ I' a = I a ∧ L' a = L a ∧ (a ≠ 132 → a ≠ 133 → R' a = R a)) ∧ InvC tb tn fk fp w tr (imUp im i w) k S' I' L' R' n' := by
      cases him : im i with
      | none =>
        rw [him] at hc
        obtain ⟨S', I', L', R', n', q1, q2, q3⟩ := x_img22 hC hi him
        refine ⟨S', I', L', R', n', ?_, q2, q3⟩
        unfold F_X11_image
        rw [x_needImage hC, if_pos h1, b3_some, gr_128_8 hs, Option.bind_some, ar_132 hs hi, Option.bind_some, hc, if_pos rfl]
        exact q1
      | some w0 =>
        rw [him] at hc
        obtain ⟨z, z1, z2, z3, z4⟩ := hc
        obtain ⟨I', R', q1, q2, q3, q4⟩ := x_img55 (L := L) (n := n) hs hi z1 z2 z4.1 z4.2.2.2.1 hC.2.2.2.1 z3
        refine ⟨S, I', L, R', n, ?_, fun a ha => ⟨rfl, q2 a (by omega) (by omega) (by omega), rfl, fun _ _ => q3 a (by omega)⟩, hC.le.im z3 (fun j hj e q => e (hC.2.2.2.2.2.1.1 j i z hj hi q z1)) z4.1.1 z4.1.2.2.2.1 z4.2.2.2.1.1 z4.2.2.2.1.2.2.2.1 q2 (fun x h1 _ _ => q3 x h1) (fun j _ => ?_) (fun j _ => ?_) q4⟩
        · unfold F_X11_image
          rw [x_needImage hC, if_pos h1, b3_some, gr_128_8 hs, Option.bind_some, ar_132 hs hi, Option.bind_some, z1, if_neg (by simp), gr_128_9 hs, Option.bind_some, ar_133 hs hi, Option.bind_some, z2, if_neg (by simp)]
          exact q1
        · rw [q3 _ (by show (132 : Nat) ≠ z; omega)]
          by_cases e : j = i
          · rw [if_pos e, e, z1]
          · rw [if_neg e]
        · rw [q3 _ (by show (133 : Nat) ≠ z; omega)]
          by_cases e : j = i
          · rw [if_pos e, e, z2]
          · rw [if_neg e]
    obtain ⟨S', I', L', R', n', q1, q2, q3⟩ := cls
    have hs' := q3.1.1
    have fC : FrC S S' I I' L L' R R' := ⟨fun a q => ⟨(q2 a (by omega)).1, (q2 a (by omega)).2.1, (q2 a (by omega)).2.2.2 (by show a ≠ 132; omega) (by show a ≠ 133; omega)⟩, fun a q => (q2 a (by omega)).2.2.1⟩
    have hR' := hR.ofC fC
    obtain ⟨Mx, g1, g2, g3⟩ := hG.le
    obtain ⟨J, hJ⟩ : ∃ J, J = up2 (up2 I' 197 4 0) 201 i 1 := ⟨_, rfl⟩
    obtain ⟨I'', r1, r2, r3, r4⟩ := e_imgL (L := L') (n := n') hs' hi 3205 mm_N 0 J (by omega) (by unfold mm_N; decide)
    have kJ : ∀ x, x ≠ 197 → x ≠ 201 → J x = I' x := fun x h1 h2 => by rw [hJ, up2_ne _ _ _ h2, up2_ne _ _ _ h1]
    have hR4 := hR'.m4 0
    refine pkV_ok (t := 0) (I'' := I'') (L'' := L') (w := w) hl (L_image_0 hs q1) ?_ ?_ fC (fun x hx => ⟨?_, rfl⟩) q3 ?_ ⟨Mx, g1, g2, fun j w' hj => ?_⟩
    · unfold F_X12_image F_X12_image_18
      rw [e2, hw2, b2_some, if_neg (by decide), pi_197_4 hs', Option.bind_some, gi_197_4 hs', Option.bind_some, up2_self, if_pos (by decide), gr_197_3 hs', Option.bind_some]
      unfold sZ
      rw [if_pos (.inr rfl), si_201 hs' hi, Option.bind_some, ← hJ]
      exact r1
    · rw [r2 _ (by decide), hJ, up2_ne _ _ _ (by decide), up2_self]
    · rw [r2 x (by show x ≠ 200; omega), kJ x (by show x ≠ 197; omega) (by show x ≠ 201; omega)]
    · refine hR4.img (i := i) (fun x h1 h2 => ?_) (fun j _ => ?_) (fun j hj e q hq => ?_) (fun q hq => ?_) g2 g3
      · rw [r2 x h1, hJ, up2_ne _ _ _ h2]
      · rw [r2 _ (by decide), hJ, up2_row]
        by_cases e : j = i
        · rw [e, up1_self, if_pos rfl]
        · rw [up1_ne _ _ e, if_neg e]
      · rw [r4 _ (by omega), hJ, up2_ne _ _ _ (by decide)]
      · rw [r3 q (Nat.zero_le _) hq, hJ, up2_ne _ _ _ (by decide)]
    · unfold imUp at hj
      by_cases e : j = i
      · rw [if_pos e] at hj
        have := Option.some.inj hj
        subst this; exact g2
      · rw [if_neg e] at hj; exact g3 j w' hj
  · have hw2 : ¬ wI a 0 2 = true := fun e => by
      obtain ⟨j, -, j2, rfl⟩ := hin.mp e
      exact h1 ((isL_iff (by decide)).mpr ⟨j, by omega, rfl⟩)
    refine pkV_ok (t := 1) (I'' := up2 I 197 4 1) (L'' := L) hl (L_image_1 hs (S' := S) (I' := I) (L' := L) (R' := R) (n' := (n.1 + 1, n.2 + 6)) ?_) ?_ (up2_self _ _ _ _) FrC.rf (FrR.up (by decide)) hC.exc (hR.m4 1) hG.le
    · unfold F_X11_image
      rw [x_needImage hC, if_neg h1, b3_thr2]; rfl
    · unfold F_X12_image F_X12_image_18
      rw [e2, b2i_ne hw2, b2_some, if_pos rfl, pi_197_4 hs, Option.bind_some, gi_197_4 hs, Option.bind_some, up2_self, if_neg (by decide)]
