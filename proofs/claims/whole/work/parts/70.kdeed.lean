/-! calls that change the board -/
def scW (I I' : mkI) : Prop := (∀ a, a ≠ 197 → a ≠ 198 → a ≠ 199 → a ≠ 203 → a ≠ 204 → ¬ (206 ≤ a ∧ a ≤ 216) → I' a = I a) ∧ ∀ j, (j = 6 ∨ j = 14 ∨ j = 15) → I' 197 j = I 197 j
theorem scW.rf {I : mkI} : scW I I := ⟨fun _ _ _ _ _ _ _ => rfl, fun _ _ => rfl⟩
theorem scW.tr {I I' I'' : mkI} (h : scW I I') (h2 : scW I' I'') : scW I I'' := ⟨fun a q1 q2 q3 q4 q5 q6 => (h2.1 a q1 q2 q3 q4 q5 q6).trans (h.1 a q1 q2 q3 q4 q5 q6), fun j q => (h2.2 j q).trans (h.2 j q)⟩
theorem scW.m4 {I : mkI} {x : Int32} : scW I (up2 I 197 4 x) := ⟨fun a q _ _ _ _ _ => up2_ne _ _ _ q, fun j q => by rw [up2_row, up1_ne _ _ (by omega)]⟩
theorem scW.ofK {I I' : mkI} (h : ∀ a, a ≠ 198 → I' a = I a) : scW I I' := ⟨fun a _ q _ _ _ _ => h a q, fun j _ => by rw [h 197 (by decide)]⟩
theorem scW.ofM {I I' : mkI} (h : keepM I I') : scW I I' := ⟨fun a q1 q2 _ q4 q5 _ => h.1 a q1 q2 q4 q5, fun j q => h.2.1 j (by omega)⟩
theorem scW.ofQ {I I' : mkI} (h : scQ I I') : scW I I' := ⟨fun a q1 _ q3 q4 q5 q6 => h.1 a q1 q3 q4 q5 q6, h.2⟩
theorem scW.fr {I I' : mkI} (h : scW I I') : ∀ a, a < 197 ∨ 220 ≤ a → I' a = I a := fun a q => h.1 a (by omega) (by omega) (by omega) (by omega) (by omega) (by omega)
theorem GOK.opn {k : Nat} {w : WD} {im : IM} (h : GOK (k + 1) w im) : PlOK w.1 ∧ w.2.2.length ≤ 10 ∧ (∀ u, u ∈ w.2.1 :: w.2.2 → u.1 ≤ 10) ∧ ∃ F T A D M, BI w.1 w.2.1.1 w.2.1.2 F T A D M ∧ M ≤ 60000 ∧ ∀ (u : BB) (F' T' A' D' : Nat → Nat) (M' : Nat), BI w.1 u.1 u.2 F' T' A' D' M' → M' ≤ M + 99 → Sub w.2.1 u → GOK k (w.1, u, keepU w.2.1 w.2.2) im := by
  obtain ⟨Mx, h1, h2, h9⟩ := h
  obtain ⟨g2, g3, g4, -⟩ := id h2
  obtain ⟨F, T, A, D, M, q, q2⟩ := g4 w.2.1 List.mem_cons_self
  refine ⟨g2, g3, fun u hu => ?_, F, T, A, D, M, q, by omega, fun u F' T' A' D' M' hu hM hs => ⟨Mx + 99, by omega, h2.push (by omega) ⟨F', T', A', D', M', hu, by omega⟩ hs, fun i w' z => (h9 i w' z).le (by omega)⟩⟩
  obtain ⟨F, T, A, D, M, q, -⟩ := g4 u hu
  exact q.1.1
section PB
variable {Ls : Nat} {xs : Nat → Int32} {tb : Nat → Nat} {tn : Nat} {fk fp : Int32} {w w' : WD} {tr : TR} {im : IM} {k : Nat} {S : mkS} {I I' I'' : mkI} {L : mkL} {R : mkR} {n : Nat × Nat} {c m : MH → Option (Int32 × MH)}
theorem pk_brdP {v : Int32} (hl : Low Ls xs S I R) (hC : InvC tb tn fk fp w tr im (k + 1) S I L R n) (hR : InvR tb tn fk fp w tr im I L) (hG : GOK k w' im) (hc : c (mk S I L R n) = some (v, mk S I' L R n)) (kI : ∀ x, ¬ scr x → x ≠ 174 → x ≠ 130 → x ≠ 131 → S (x - 2) ≠ (14, 0) → I' x = I x) (hcw : CW w' S R I' 170 174 175 130 131) (hm : m (mk S I' L R n) = some (v, mk S I'' L R n)) (sw : scW I' I'') (hw : RW w' (I'' 198)) : ∃ v S' I' L' R' n' I'' L'', c (mk S I L R n) = some (v, mk S' I' L' R' n') ∧ m (mk S' I' L' R' n') = some (v, mk S' I'' L'' R' n') ∧ AllK Ls xs k S' I' I'' L'' R' n' := by
  have fC : FrC S S I I' L L R R := FrC.brd hl hC.1.1 hC.1.2.1 kI
  exact pk_okP hl hc hm fC (fun a q => ⟨sw.fr a q, rfl⟩) (hC.le.brd kI hcw) ((hR.ofC fC).brd sw.1 sw.2 hw) hG
theorem pk_brd {v : Int32} (hl : Low Ls xs S I R) (hC : InvC tb tn fk fp w tr im (k + 1) S I L R n) (hR : InvR tb tn fk fp w tr im I L) (hG : GOK k w' im) (hc : c (mk S I L R n) = some (0, mk S I' (up2 L 220 0 v.toInt64) R n)) (kI : ∀ x, ¬ scr x → x ≠ 174 → x ≠ 130 → x ≠ 131 → S (x - 2) ≠ (14, 0) → I' x = I x) (hcw : CW w' S R I' 170 174 175 130 131) (hm : m (mk S I' (up2 L 220 0 v.toInt64) R n) = some (v, mk S I'' (up2 L 220 0 v.toInt64) R n)) (h4 : I'' 197 4 = 0) (sw : scW I' I'') (hw : RW w' (I'' 198)) : ∃ t v S' I' L' R' n' I'' L'', c (mk S I L R n) = some (t, mk S' I' L' R' n') ∧ (t = 0 → L' 220 0 = Int32.toInt64 v) ∧ m (mk S' I' L' R' n') = some (v, mk S' I'' L'' R' n') ∧ I'' 197 4 = t ∧ L'' 220 0 = L' 220 0 ∧ AllK Ls xs k S' I' I'' L'' R' n' := by
  have fC : FrC S S I I' L (up2 L 220 0 v.toInt64) R R := (FrC.brd (L := L) hl hC.1.1 hC.1.2.1 kI).out 0 _
  exact pk_ok hl hc (fun _ => up2_self _ _ _ _) hm h4 fC (fun a q => ⟨sw.fr a q, rfl⟩) ((hC.le.brd kI hcw).out 0 _) ((hR.ofC fC).brd sw.1 sw.2 hw) hG
/-- the class keeps the board, then something is done to it -/
theorem x_keep (hC : InvC tb tn fk fp w tr im k S I L R n) (hU : w.2.2.length ≤ 10) : ∃ I', F_X3_keep (some 130) (some 170) (mk S I L R n) = some (mk S I' L R n) ∧ DdR (keepU w.2.1 w.2.2) I' 130 131 ∧ ∀ a, a ≠ 130 → a ≠ 131 → I' a = I a := by
  obtain ⟨hb, -, hf, hd, hD⟩ := id hC.2.2.2.1
  exact c_keep hb hd hU hD hf
theorem x_dd (hC : InvC tb tn fk fp w tr im k S I L R n) : gR (mk S I L R n) (some 128) 11 6 = some (some 130) := gr_128_6 hC.1.1
theorem x_CW (hC : InvC tb tn fk fp w tr im k S I L R n) {u : BB} {U : List BB} (kI : ∀ x, ¬ scr x → x ≠ 174 → x ≠ 130 → x ≠ 131 → S (x - 2) ≠ (14, 0) → I' x = I x) (hf : ∀ j, j < 81 → I' 174 j = u.2 j) (hD : DdR U I' 130 131) : CW (w.1, u, U) S R I' 170 174 175 130 131 := by
  obtain ⟨hb, ⟨p, hpl, hp⟩, -, hd, -⟩ := id hC.2.2.2.1
  exact ⟨hb, ⟨p, hpl, hp.keep hC.1.2.1 (fun x q q2 => kI x (by unfold pa at q; unfold scr; omega) (by unfold pa at q; show x ≠ 174; omega) (by unfold pa at q; show x ≠ 130; omega) (by unfold pa at q; show x ≠ 131; omega) q2)⟩, hf, hd, hD⟩
end PB
theorem aOkL_iff {W : Nat} (hW : W ≤ 8) {l m t : Int32} (h : aOkL W l m t = true) : ∃ a b z, a < W ∧ b < W ∧ a ≠ b ∧ 1 ≤ z ∧ z ≤ 99 ∧ l = nI a ∧ m = nI b ∧ t = nI z := by
  unfold aOkL at h
  simp only [Bool.and_eq_true, decide_eq_true_eq] at h
  obtain ⟨h1, h2, h3, h4⟩ := h
  obtain ⟨a, ha, rfl⟩ := (isL_iff (by omega)).mp h1
  obtain ⟨b, hb, rfl⟩ := (isL_iff (by omega)).mp h2
  obtain ⟨z, q1, q2, rfl⟩ := (wI_iff (lo := 1) (hi := 99) (by decide) (by decide)).mp h4
  exact ⟨a, b, z, ha, hb, fun q => h3 (by rw [q]), q1, q2, rfl, rfl, rfl⟩
theorem k_dial (Ls : Nat) (xs : Nat → Int32) (a b c : Int32) : GoodP Ls xs (F_X11_dial (some 128) a b c) (F_X12_dial (some 197) a b c) := by
  intro k S I L R n ⟨hl, tb, tn, fk, fp, w, tr, im, hC, hR, hG⟩
  obtain ⟨hs, hb, ⟨p, hpl, hp⟩, ⟨c1, c2⟩, hP, hRP, hRB⟩ := inv_all hC hR hG
  obtain ⟨-, g3, g4, F, T, A, D, M, hB, hM, hgo⟩ := hG.opn
  have w2 := hP.2.1
  have hf : ∀ j, j < 81 → I 174 j = w.2.1.2 j := fun j hj => x_cells hC hj
  have hB' := hB.congr hf
  have ew := c_whyRing (L := L) (n := n) hP hb hpl hp c1 c2 a b c
  have hK : (up2 I 197 4 0) 198 = I 198 := up2_ne _ _ _ (by decide)
  have ewR := e_whyDial (L := L) (n := n) hs (I := up2 I 197 4 0) (show pW w.1 ≤ 1000000 by omega) c1 (by rw [hK]; exact hRP.2.1) (by rw [hK, hRB.2.2.2.1]; exact c2) a b c
  by_cases hw0 : aRing (pW w.1) w.2.1.1 a b c = 0
  · have hok : aOkL (pW w.1) a b c = true := by
      cases q : aOkL (pW w.1) a b c
      · unfold aRing at hw0; rw [q, if_neg (by decide)] at hw0; exact absurd hw0 (by decide)
      · rfl
    have hC10 : w.2.1.1 < 10 := by
      unfold aRing at hw0
      rw [if_pos hok] at hw0
      by_cases q : w.2.1.1 < 10
      · exact q
      · rw [if_neg q] at hw0; exact absurd hw0 (by decide)
    obtain ⟨i, j, z, hi, hj, hij, z1, z2, rfl, rfl, rfl⟩ := aOkL_iff w2 hok
    obtain ⟨I1, e1, d1, k1⟩ := x_keep hC g3
    have b1 : I1 174 = I 174 := k1 _ (by decide) (by decide)
    have e0 : I 174 0 = nI M := hB'.2.1
    obtain ⟨I2, e2, b2, k2⟩ := c_addCall (L := L) (n := n) hb hC10 (I := I1) (by rw [b1]; exact c2) (nI i) (nI j) (nI M) (nI z)
    rw [b1] at b2
    have kI : ∀ x, ¬ scr x → x ≠ 174 → x ≠ 130 → x ≠ 131 → S (x - 2) ≠ (14, 0) → I2 x = I x := fun x _ q1 q2 q3 _ => by rw [k2 x q1, k1 x q2 q3]
    have hBn := hB'.add hC10 (show M ≤ 200000 by omega) hi hj hij ⟨by omega, by omega⟩ z1 z2 (t := M)
    have hsub : Sub w.2.1 (w.2.1.1 + 1, aAdd w.2.1.1 (I 174) (nI i) (nI j) (nI M) (nI z)) := ⟨by show w.2.1.1 ≤ w.2.1.1 + 1; omega, fun c j hc hj => by
      show w.2.1.2 _ = aAdd _ _ _ _ _ _ _
      rw [aAdd_old (by omega) (by omega)]; exact (hf _ (by omega)).symm⟩
    have hgN := hgo (w.2.1.1 + 1, aAdd w.2.1.1 (I 174) (nI i) (nI j) (nI M) (nI z)) _ _ _ _ _ hBn (by omega) hsub
    have dN : DdR (keepU w.2.1 w.2.2) I2 130 131 := by
      obtain ⟨nx, y1, y2, y3, y4⟩ := d1
      have q1 := k2 130 (by decide)
      have q2 := k2 131 (by decide)
      exact ⟨nx, y1, by rw [q1]; exact y2, by rw [q1]; exact y3, by rw [q2]; exact y4⟩
    have eK : ∀ a, 197 ≤ a → a ≤ 220 → I2 a = I a := fun a q1 q2 => by rw [k2 a (by show a ≠ 174; omega), k1 a (by show a ≠ 130; omega) (by show a ≠ 131; omega)]
    have hK2 : (up2 I2 197 4 0) 198 = I 198 := by rw [up2_ne _ _ _ (by decide)]; exact eK _ (by decide) (by decide)
    have ewR2 := e_whyDial (L := L) (n := n) hs (I := up2 I2 197 4 0) (show pW w.1 ≤ 1000000 by omega) c1 (by rw [hK2]; exact hRP.2.1) (by rw [hK2, hRB.2.2.2.1]; exact c2) (nI i) (nI j) (nI z)
    obtain ⟨I3, f1, f2, f3⟩ := e_keeps (L := L) (n := n) hs hP (I := up2 I2 197 4 0) (w := w) (by rw [hK2]; exact hR.2.2.1) g3 (fun u hu => g4 u (List.mem_cons_of_mem _ hu))
    have RB3 : RBoard w.2.1.1 (I 174) (I3 198) := f3.2.1.congr hf
    obtain ⟨I4, l1, l2, l3, l4⟩ := e_laysCall (L := L) (n := n) hs RB3 hC10 (nI i) (nI j) (nI M) (nI z) (by rw [e0]; exact nI_nlt (Nat.le_refl _) (by omega))
    refine pk_brdP (v := nI w.2.1.1) (w' := (w.1, (w.2.1.1 + 1, aAdd w.2.1.1 (I 174) (nI i) (nI j) (nI M) (nI z)), keepU w.2.1 w.2.2)) (I' := I2) (I'' := I4) hl hC hR hgN ?_ kI (x_CW hC kI (fun j _ => by rw [b2]) dN) ?_ ?_ ?_
    · unfold F_X11_dial F_X0_ring
      rw [x_bd hC, Option.bind_some, bd_v hb, ew, b2_some, hw0, if_pos rfl, x_dd hC, Option.bind_some, x_bd hC, Option.bind_some, mk_cV (by rw [hC.2.2.2.1.2.2.2.1.1]), e1, Option.bind_some, gr_128_5 hs, Option.bind_some, bd_v hb, bd_v hb, c_minute hb, b2_some, b1, e0, bd_v hb, e2, b2_some, b2_some]
    · unfold F_X12_dial
      rw [pi_197_4 hs, Option.bind_some, cv_197 hs, ewR2, b2_some, hw0, if_pos rfl, cv_197 hs, f1, Option.bind_some, gr_197_0 hs, Option.bind_some, Option.bind_some, ail_198 hs (show 47 < 3205 by decide), Option.bind_some, RB3.2.2.1, e0, l1, Option.bind_some, cv_197 hs, e_calls hs, b2_some, l2.2.2.2.1, l2.2.1, nI_sub1 (by omega), Nat.add_sub_cancel]
    · exact (scW.m4.tr (scW.ofK f2)).tr (scW.ofK l3)
    · exact f3.brd hP l2 (fun v hv => by
        have hv' : v ∈ w.2.1 :: w.2.2 := List.mem_of_mem_take hv
        exact g4 v hv') (by show (keepU w.2.1 w.2.2).length ≤ 10; rw [keepU_len g3]; omega) l4
  · refine pk_okP (v := -(aRing (pW w.1) w.2.1.1 a b c)) (I'' := up2 I 197 4 0) (L'' := L) hl ?_ ?_ FrC.rf (FrR.up (by decide)) hC.le (hR.m4 0) hG.le
    · unfold F_X11_dial
      rw [x_bd hC, Option.bind_some, bd_v hb, ew, b2_some, if_neg hw0]
    · unfold F_X12_dial
      rw [pi_197_4 hs, Option.bind_some, cv_197 hs, ewR, b2_some, if_neg hw0]
