/-! pull, door -/
def aPull (C : Nat) (f : Nat → Int32) (c : Int32) : Int32 := if isL C c = true then (if f (15 + 7 * c.toNatClampNeg) = 1 then 0 else 2) else 1
section CPl
variable {S : mkS} {I : mkI} {L : mkL} {R : mkR} {n : Nat × Nat} {b ca co p : Nat} {P : PL}
theorem c_whyPull (hb : BdS S R b ca co) {C : Nat} (hC : C ≤ 10) (h1 : I ca 1 = nI C) (c : Int32) : F_X0_whyNotUnplug (some b) c (mk S I L R n) = some (aPull C (I ca) c, mk S I L R n) := by
  unfold F_X0_whyNotUnplug F_X0_whyNotUnplug_12 F_X0_whyNotUnplug_27 aPull
  rw [bd_v hb, c_calls hb, b2_some, h1, if_isL]
  by_cases h : isL C c = true
  · rw [if_pos h, if_pos h]
    obtain ⟨d, hd, rfl⟩ := (isL_iff (by omega)).mp h
    rw [bd_v hb, c_isOn hb hC h1 hd, b2_some, nI_clamp (by omega)]
    by_cases q : I ca (15 + 7 * d) = 1
    · rw [decide_eq_true q, if_neg (by decide), if_pos q]
    · rw [decide_eq_false q, if_pos (by decide), if_neg q]
  · rw [if_neg h, if_neg h]
theorem e_whyPull (hs : St S R) {C : Nat} {f : Nat → Int32} (hB : RBoard C f (I 198)) (c : Int32) : F_X12_whyPull (some 197) c.toInt64 (mk S I L R n) = some (aPull C f c, mk S I L R n) := by
  have hC := hB.1
  unfold F_X12_whyPull F_X12_whyPull_31 aPull
  rw [cv_197 hs, e_isCall2 hs (show C ≤ 1000000 by omega) (by rw [hB.2.2.2.1, hB.2.1]), b2_some]
  by_cases h : isL C c = true
  · rw [h, if_neg (by decide), if_pos rfl]
    obtain ⟨d, hd, rfl⟩ := (isL_iff (by omega)).mp h
    rw [gr_197_0 hs, Option.bind_some, Int32.toInt32_toInt64, li_add 8, ai_198 hs (show 8 + d < 3205 by omega), Option.bind_some, nI_clamp (by omega), (hB.2.2.2.2.2.2 d hd).2.2.2.2.1]
    by_cases q : f (15 + 7 * d) = 1
    · rw [if_pos q, if_pos q]
    · rw [if_neg q, if_neg q]
  · have h' : isL C c = false := by simpa using h
    rw [h', if_pos (by decide), if_neg (by decide)]
end CPl
theorem aPull_0 {C : Nat} {f : Nat → Int32} {c : Int32} (hC : C ≤ 10) (h : aPull C f c = 0) : ∃ d, d < C ∧ c = nI d ∧ f (15 + 7 * d) = 1 := by
  unfold aPull at h
  by_cases q : isL C c = true
  · rw [if_pos q] at h
    obtain ⟨d, hd, rfl⟩ := (isL_iff (by omega)).mp q
    rw [nI_clamp (by omega)] at h
    by_cases q2 : f (15 + 7 * d) = 1
    · exact ⟨d, hd, rfl, q2⟩
    · rw [if_neg q2] at h; exact absurd h (by decide)
  · rw [if_neg q] at h; exact absurd h (by decide)
theorem DdR.eq {U : List BB} {I I' : mkI} {dd rw' : Nat} (h : DdR U I dd rw') (h1 : I' dd = I dd) (h2 : I' rw' = I rw') : DdR U I' dd rw' := by
  obtain ⟨nx, y1, y2, y3, y4⟩ := h
  exact ⟨nx, y1, by rw [h1]; exact y2, by rw [h1]; exact y3, by rw [h2]; exact y4⟩
theorem k_pull (Ls : Nat) (xs : Nat → Int32) (a : Int32) : GoodP Ls xs (F_X11_pull (some 128) a) (F_X12_pull (some 197) a) := by
  intro k S I L R n ⟨hl, tb, tn, fk, fp, w, tr, im, hC, hR, hG⟩
  obtain ⟨hs, hb, ⟨p, hpl, hp⟩, ⟨c1, c2⟩, hP, hRP, hRB⟩ := inv_all hC hR hG
  obtain ⟨-, g3, g4, F, T, A, D, M, hB, hM, hgo⟩ := hG.opn
  have hf : ∀ j, j < 81 → I 174 j = w.2.1.2 j := fun j hj => x_cells hC hj
  have hB' := hB.congr hf
  have ew := c_whyPull (L := L) (n := n) hb c1 c2 a
  have hK : (up2 I 197 4 0) 198 = I 198 := up2_ne _ _ _ (by decide)
  have ewR := e_whyPull (L := L) (n := n) hs (I := up2 I 197 4 0) (by rw [hK]; exact hRB) a
  by_cases hw0 : aPull w.2.1.1 (I 174) a = 0
  · obtain ⟨c, hc, rfl, -⟩ := aPull_0 c1 hw0
    obtain ⟨I1, e1, d1, k1⟩ := x_keep hC g3
    have b1 : I1 174 = I 174 := k1 _ (by decide) (by decide)
    obtain ⟨I2, hI2⟩ : ∃ J, J = up2 I1 174 (15 + 7 * c) 2 := ⟨_, rfl⟩
    have k2 : ∀ x, x ≠ 174 → I2 x = I1 x := fun x q => by rw [hI2, up2_ne _ _ _ q]
    have b2 : I2 174 = up1 (I 174) (15 + 7 * c) 2 := by rw [hI2, up2_row, b1]
    have kI : ∀ x, ¬ scr x → x ≠ 174 → x ≠ 130 → x ≠ 131 → S (x - 2) ≠ (14, 0) → I2 x = I x := fun x _ q1 q2 q3 _ => by rw [k2 x q1, k1 x q2 q3]
    have hsub : Sub w.2.1 (w.2.1.1, up1 (I 174) (15 + 7 * c) 2) := ⟨Nat.le_refl _, fun d j hd hj => by
      show w.2.1.2 _ = up1 _ _ _ _
      rw [up1_ne _ _ (by omega)]; exact (hf _ (by omega)).symm⟩
    have hgN := hgo (w.2.1.1, up1 (I 174) (15 + 7 * c) 2) _ _ _ _ _ (hB'.over c) (by omega) hsub
    have dN := d1.eq (k2 130 (by decide)) (k2 131 (by decide))
    have eK : ∀ a, 197 ≤ a → a ≤ 220 → I2 a = I a := fun a q1 q2 => by rw [k2 a (by show a ≠ 174; omega), k1 a (by show a ≠ 130; omega) (by show a ≠ 131; omega)]
    have hK2 : (up2 I2 197 4 0) 198 = I 198 := by rw [up2_ne _ _ _ (by decide)]; exact eK _ (by decide) (by decide)
    have ewR2 := e_whyPull (L := L) (n := n) hs (I := up2 I2 197 4 0) (by rw [hK2]; exact hRB) (nI c)
    obtain ⟨I3, f1, f2, f3⟩ := e_keeps (L := L) (n := n) hs hP (I := up2 I2 197 4 0) (w := w) (by rw [hK2]; exact hR.2.2.1) g3 (fun u hu => g4 u (List.mem_cons_of_mem _ hu))
    have RB3 : RBoard w.2.1.1 (I 174) (I3 198) := f3.2.1.congr hf
    have s4 : F_X0_setFact (some 170) (nI c) (4 : Int32) (2 : Int32) (mk S I1 L R n) = some (mk S I2 L R n) := by
      have := c_setFact (n := n) (L := L) (w := 4) hb c1 (I := I1) (by rw [b1]; exact c2) hc (by decide) 2
      rw [show 11 + 7 * c + 4 = 15 + 7 * c by omega, ← hI2] at this; exact this
    have s6 : F_X0_fact (some 170) (nI c) (6 : Int32) (mk S I2 L R n) = some (I 174 (17 + 7 * c), mk S I2 L R n) := by
      have := c_fact (n := n) (L := L) (w := 6) hb c1 (I := I2) (by rw [b2, up1_ne _ _ (by omega)]; exact c2) hc (by decide)
      rw [show 11 + 7 * c + 6 = 17 + 7 * c by omega, b2, up1_ne _ _ (by omega)] at this; exact this
    refine pk_brdP (v := I 174 (17 + 7 * c)) (w' := (w.1, (w.2.1.1, up1 (I 174) (15 + 7 * c) 2), keepU w.2.1 w.2.2)) (I' := I2) (I'' := up2 I3 198 (8 + c) 2) hl hC hR hgN ?_ kI (x_CW hC kI (fun j _ => by rw [b2]) dN) ?_ ?_ ?_
    · unfold F_X11_pull F_X0_unplug
      rw [x_bd hC, Option.bind_some, bd_v hb, ew, b2_some, hw0, if_pos rfl, x_dd hC, Option.bind_some, x_bd hC, Option.bind_some, mk_cV (by rw [hC.2.2.2.1.2.2.2.1.1]), e1, Option.bind_some, gr_128_5 hs, Option.bind_some, bd_v hb, bd_v hb, s4, Option.bind_some, bd_v hb, s6, b2_some, b2_some]
    · unfold F_X12_pull
      rw [pi_197_4 hs, Option.bind_some, cv_197 hs, ewR2, b2_some, hw0, if_pos rfl, cv_197 hs, f1, Option.bind_some, gr_197_0 hs, Option.bind_some, li_add 8, si_198 hs (show 8 + c < 3205 by omega), Option.bind_some, gr_197_0 hs, Option.bind_some, li_add 28, ai_198 hs (show 28 + c < 3205 by omega), Option.bind_some, up2_row, up1_ne _ _ (by omega), (RB3.2.2.2.2.2.2 c hc).2.2.2.2.2.2]
    · exact (scW.m4.tr (scW.ofK f2)).tr (scW.ofK (fun a ha => up2_ne _ _ _ ha))
    · exact f3.brd hP (by rw [up2_row]; exact rb_st RB3 hc 2) (fun v hv => by
        have hv' : v ∈ w.2.1 :: w.2.2 := List.mem_of_mem_take hv
        exact g4 v hv') (by show (keepU w.2.1 w.2.2).length ≤ 10; rw [keepU_len g3]; omega) (fun k hk => by rw [up2_row, up1_ne _ _ (by omega)])
  · refine pk_okP (v := -10 - aPull w.2.1.1 (I 174) a) (I'' := up2 I 197 4 0) (L'' := L) hl ?_ ?_ FrC.rf (FrR.up (by decide)) hC.le (hR.m4 0) hG.le
    · unfold F_X11_pull
      rw [x_bd hC, Option.bind_some, bd_v hb, ew, b2_some, if_neg hw0]
    · unfold F_X12_pull
      rw [pi_197_4 hs, Option.bind_some, cv_197 hs, ewR, b2_some, if_neg hw0]
theorem rb_do {C : Nat} {f K : Nat → Int32} (h : RBoard C f K) (y : Int32) : RBoard C (up1 f 2 y) (up1 K 46 y) := by
  obtain ⟨r1, r2, r3, r4, r5, r6, r7⟩ := h
  refine ⟨r1, by rw [up1_ne _ _ (by omega)]; exact r2, by rw [up1_ne _ _ (by omega), up1_ne _ _ (by omega)]; exact r3, by rw [up1_ne _ _ (by omega), up1_ne _ _ (by omega)]; exact r4, by rw [up1_self, up1_self], fun l hl => by rw [up1_ne _ _ (by omega), up1_ne _ _ (by omega)]; exact r6 l hl, fun d hd => ?_⟩
  rw [up1_ne _ _ (by omega), up1_ne _ _ (by omega), up1_ne _ _ (by omega), up1_ne _ _ (by omega), up1_ne _ _ (by omega), up1_ne _ _ (by omega), up1_ne _ _ (by omega), up1_ne _ _ (by omega), up1_ne _ _ (by omega), up1_ne _ _ (by omega), up1_ne _ _ (by omega), up1_ne _ _ (by omega), up1_ne _ _ (by omega), up1_ne _ _ (by omega)]
  exact r7 d hd
theorem k_door (Ls : Nat) (xs : Nat → Int32) (a : Int32) : Good Ls xs (F_L_door (some 128) a (some 220)) (F_X12_door (some 197) a) := by
  intro k S I L R n ⟨hl, tb, tn, fk, fp, w, tr, im, hC, hR, hG⟩
  obtain ⟨hs, hb, ⟨p, hpl, hp⟩, ⟨c1, c2⟩, hP, hRP, hRB⟩ := inv_all hC hR hG
  obtain ⟨-, g3, g4, F, T, A, D, M, hB, hM, hgo⟩ := hG.opn
  have w2 := hP.2.1
  have hf : ∀ j, j < 81 → I 174 j = w.2.1.2 j := fun j hj => x_cells hC hj
  have hB' := hB.congr hf
  obtain ⟨z9, hz⟩ : ∃ z, z = F_X11_door (some 128) a (mk S I L R n) := ⟨_, rfl⟩
  have xl := hz
  unfold F_X11_door at xl
  rw [cv_128 hs, x_needLine hC, b3_if, b3_thr2, b3_some] at xl
  by_cases h1 : isL (pW w.1) a = true
  · rw [if_pos h1] at xl
    obtain ⟨l, hl9, rfl⟩ := (isL_iff (show pW w.1 < 2147483648 by omega)).mp h1
    obtain ⟨I1, e1, d1, k1⟩ := x_keep hC g3
    have b1 : I1 174 = I 174 := k1 _ (by decide) (by decide)
    obtain ⟨y, hy⟩ : ∃ y, y = I 174 2 ^^^ ((1 : Int32) <<< (nI l &&& 31)) := ⟨_, rfl⟩
    obtain ⟨I2, hI2⟩ : ∃ J, J = up2 I1 174 2 y := ⟨_, rfl⟩
    have k2 : ∀ x, x ≠ 174 → I2 x = I1 x := fun x q => by rw [hI2, up2_ne _ _ _ q]
    have b2 : I2 174 = up1 (I 174) 2 y := by rw [hI2, up2_row, b1]
    have kI : ∀ x, ¬ scr x → x ≠ 174 → x ≠ 130 → x ≠ 131 → S (x - 2) ≠ (14, 0) → I2 x = I x := fun x _ q1 q2 q3 _ => by rw [k2 x q1, k1 x q2 q3]
    have hsub : Sub w.2.1 (w.2.1.1, up1 (I 174) 2 y) := ⟨Nat.le_refl _, fun d j hd hj => by
      show w.2.1.2 _ = up1 _ _ _ _
      rw [up1_ne _ _ (by omega)]; exact (hf _ (by omega)).symm⟩
    have hgN := hgo (w.2.1.1, up1 (I 174) 2 y) _ _ _ _ _ (hB'.door y) (by omega) hsub
    have dN := d1.eq (k2 130 (by decide)) (k2 131 (by decide))
    have eK : ∀ a, 197 ≤ a → a ≤ 220 → I2 a = I a := fun a q1 q2 => by rw [k2 a (by show a ≠ 174; omega), k1 a (by show a ≠ 130; omega) (by show a ≠ 131; omega)]
    have hK2 : (up2 I2 197 4 0) 198 = I 198 := by rw [up2_ne _ _ _ (by decide)]; exact eK _ (by decide) (by decide)
    have p1 : CPlan w.1 S R I1 p := hp.keep hC.1.2.1 (fun x q q2 => k1 x (by unfold pa at q; show x ≠ 130; omega) (by unfold pa at q; show x ≠ 131; omega))
    have p2 : CPlan w.1 S R I2 p := p1.keep hC.1.2.1 (fun x q q2 => k2 x (by unfold pa at q; show x ≠ 174; omega))
    have et : F_X0_turnDoor (some 170) (nI l) (mk S I1 L R n) = some (mk S I2 L R n) := by
      unfold F_X0_turnDoor F_X0_turnDoor_20
      rw [bd_v hb, c_isLine hP hb hpl p1, b2_some, h1, if_neg (by decide), bd_g hb, Option.bind_some, show (2 : Int32) = nI 2 from rfl, bd_a hb (by decide), Option.bind_some, bd_s hb (by decide), Option.bind_some, b1, ← hy, ← hI2]
    have es : F_X0_isShut (some 170) (nI l) (mk S I2 L R n) = some (b2i (hasB y (nI l)), mk S I2 L R n) := by
      rw [c_isShut hP hb hpl p2, h1, Bool.true_and, b2, up1_self]
    rw [x_dd hC, Option.bind_some, x_bd hC, Option.bind_some, mk_cV (by rw [hC.2.2.2.1.2.2.2.1.1]), e1, Option.bind_some, gr_128_5 hs, Option.bind_some, bd_v hb, et, Option.bind_some, gr_128_5 hs, Option.bind_some, bd_v hb, es, b2_some] at xl
    have xl' : z9 = some (.inr (b2i (hasB y (nI l))), mk S I2 L R n) := by
      rw [xl]; unfold F_X11_door_40; cases hasB y (nI l) <;> rfl
    obtain ⟨I3, f1, f2, f3⟩ := e_keeps (L := up2 L 220 0 (b2i (hasB y (nI l))).toInt64) (n := n) hs hP (I := up2 I2 197 4 0) (w := w) (by rw [hK2]; exact hR.2.2.1) g3 (fun u hu => g4 u (List.mem_cons_of_mem _ hu))
    have RB3 : RBoard w.2.1.1 (I 174) (I3 198) := f3.2.1.congr hf
    have s46 : ∀ L, sI (mk S I3 L R n) (some 198) 0 (46 : Int32) y = some (mk S (up2 I3 198 46 y) L R n) := fun L => si_198 (k := 46) hs (by decide)
    refine pk_brd (v := b2i (hasB y (nI l))) (w' := (w.1, (w.2.1.1, up1 (I 174) 2 y), keepU w.2.1 w.2.2)) (I' := I2) (I'' := up2 I3 198 46 y) hl hC hR hgN (L_door_0 hs hs (hz.symm.trans xl')) kI (x_CW hC kI (fun j _ => by rw [b2]) dN) ?_ ?_ ?_ ?_
    · unfold F_X12_door F_X12_door_50
      rw [pi_197_4 hs, Option.bind_some, cv_197 hs, e_isLine2 hs (show pW w.1 ≤ 1000000 by omega) (by rw [hK2]; exact hRP.2.1), b2_some, h1, if_neg (by decide), cv_197 hs, f1, Option.bind_some, gr_197_0 hs, Option.bind_some, ail_198 hs (show 46 < 3205 by decide), Option.bind_some, RB3.2.2.2.2.1, ← hy, s46, Option.bind_some, cv_197 hs, e_isShut hs, b2_some, up2_self]
      cases hasB y (nI l) <;> rfl
    · rw [up2_ne _ _ _ (by decide), f2 _ (by decide), up2_self]
    · exact (scW.m4.tr (scW.ofK f2)).tr (scW.ofK (fun a ha => up2_ne _ _ _ ha))
    · refine f3.brd hP ?_ (fun v hv => by
        have hv' : v ∈ w.2.1 :: w.2.2 := List.mem_of_mem_take hv
        exact g4 v hv') (by show (keepU w.2.1 w.2.2).length ≤ 10; rw [keepU_len g3]; omega) (fun k hk => by rw [up2_row, up1_ne _ _ (by omega)])
      show RBoard w.2.1.1 (up1 (I 174) 2 y) _
      rw [up2_row]
      exact rb_do RB3 y
  · rw [if_neg h1] at xl
    refine pk_thr (t := 1) (by decide) hl hC hR hG (L_door_1 hs (hz.symm.trans xl)) (v := 0) ?_
    unfold F_X12_door F_X12_fails
    rw [pi_197_4 hs, Option.bind_some, cv_197 hs, e_isLine2 hs (show pW w.1 ≤ 1000000 by omega) (by rw [up2_ne _ _ _ (by decide)]; exact hRP.2.1), b2_some, if_pos (by rw [b2i_0]; simpa using h1), cv_197 hs, pi_197_4 hs, Option.bind_some, b2_some]
    refine congrArg (fun q => some (0, mk S q L R (n.1 + 1, n.2 + 6))) (funext fun b => funext fun j => ?_)
    simp only [up2]; split <;> rfl
