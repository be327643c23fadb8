/-! the class: where a call comes to -/
section CW
variable {S : mkS} {I : mkI} {L : mkL} {R : mkR} {n : Nat × Nat} {b ca co p : Nat} {P : PL}
theorem c_whereTo (hP : PlOK P) (hb : BdS S R b ca co) (hpl : R b 2 = some p) (hp : CPlan P S R I p) {C c a to M : Nat} (hC : C ≤ 10) (h1 : I ca 1 = nI C) (hc : c < C) (ha : a < pW P) (hto : to < pW P) (hM : M ≤ 1000000) (e0 : I ca (11 + 7 * c) = nI a) (e1 : I ca (12 + 7 * c) = nI to) :
    ∃ I', keepL S I I' ∧ F_X0_whereTo (some b) (nI c) (nI M) (mk S I L R n) = some (aComes P (nI a) (nI to) (nI M) (nI c), mk S I' L R n) := by
  have w1 := hP.1
  have w2 := hP.2.1
  obtain ⟨s1, -, ⟨i0, -, -⟩, -, -, hl, -⟩ := hp
  have gp : ∀ I : mkI, gR (mk S I L R n) (some b) 0 2 = some (some p) := fun I => (mk_gR (by rw [hb.1]) rfl).trans (by rw [hpl])
  have g5 : ∀ I : mkI, gR (mk S I L R n) (some p) 8 5 = some (R p 5) := fun I => mk_gR (by rw [s1]) rfl
  have g0 : ∀ I : mkI, gI (mk S I L R n) (some p) 8 0 = some (I p 0) := fun I => mk_gI (by rw [s1]) rfl
  have f1 : F_X0_fact (some b) (nI c) (1 : Int32) (mk S I L R n) = some (nI to, mk S I L R n) := by
    have := c_fact (n := n) (L := L) (w := 1) hb hC h1 hc (by decide); rw [show 11 + 7 * c + 1 = 12 + 7 * c by omega, e1] at this; exact this
  have f0 : F_X0_fact (some b) (nI c) (0 : Int32) (mk S I L R n) = some (nI a, mk S I L R n) := by
    have := c_fact (n := n) (L := L) (w := 0) hb hC h1 hc (by decide); rw [Nat.add_zero, e0] at this; exact this
  unfold F_X0_whereTo F_X0_whereTo_31 aComes
  rw [bd_v hb, f1, b2_some, gp, Option.bind_some, g5, Option.bind_some]
  rcases hl with ⟨hS, hr⟩ | ⟨hS, la, hr, q1, hL, hcode⟩
  · rw [hr, if_pos rfl, if_pos hS]; exact ⟨I, keepL.rf, rfl⟩
  · obtain ⟨lc, hlc⟩ : ∃ lc, la + 1 = lc := ⟨_, rfl⟩
    obtain ⟨ls, hls⟩ : ∃ ls, la + 2 = ls := ⟨_, rfl⟩
    rw [hlc, hls] at hL
    rw [hlc] at hcode
    rw [hr, if_neg (by simp), if_neg hS, Option.bind_some, g0, Option.bind_some, i0, if_pos (show (0 : Int32) < nI (pW P) from nI_lt (a := 0) (b := pW P) (by omega) (by omega)), bd_v hb, f0, b2_some]
    have hsh : S ls = (1, 32) := hL.2.2.2.2.1
    obtain ⟨I1, hI1⟩ : ∃ I1, I1 = up2 (up2 (up2 (up2 I ls 0 (nI a)) ls 1 (nI to)) ls 2 (remI (nI M) 60)) ls 3 (nI c) := ⟨_, rfl⟩
    have k1 : ∀ x, x ≠ ls → I1 x = I x := fun x h9 => by rw [hI1, up2_ne _ _ _ h9, up2_ne _ _ _ h9, up2_ne _ _ _ h9, up2_ne _ _ _ h9]
    have e2 : F_X5_setVariables (some la) (nI a) (nI to) (nI M - nI M / 60 * 60) (nI c) (mk S I L R n) = some (mk S I1 L R n) := by rw [hI1]; exact e_setVars I hL _ _ _ _
    obtain ⟨g, hg⟩ := e_value (n := n) (L := L) I1 hL (pS P) false rfl (fun j hj => by rw [k1 _ hL.2.2.2.2.2.2.1]; exact hcode j hj) (hP.2.2.2.1.2.1 hS)
    have hv : lawv (I1 ls) (pS P) = lawv (vr (nI a) (nI to) (remI (nI M) 60) (nI c) 0 0) (pS P) := by
      refine lawv_congr (m := 4) ?_ hP.2.2.2.1.2.2
      intro j hj
      rw [hI1]
      rcases (show j = 0 ∨ j = 1 ∨ j = 2 ∨ j = 3 by omega) with rfl | rfl | rfl | rfl <;> simp [up2, vr]
    have hcv : ∀ (I : mkI) {α : Type} (q : Option α), cV (mk S I L R n) (some la) 5 q = q := fun I α q => mk_cV (by rw [hL.1])
    have hpls : p ≠ ls := fun h9 => by rw [h9, hsh] at s1; cases s1
    have u0 : up1 I1 ls g p 0 = nI (pW P) := by rw [up1_ne _ _ hpls, k1 _ hpls]; exact i0
    have hne : ¬ nI (pW P) = 0 := nI_ne0 (by omega) (by omega)
    refine ⟨up1 I1 ls g, fun x h9 => by have h8 : x ≠ ls := fun h7 => h9 (by rw [h7, ← hls, Nat.add_sub_cancel]; exact hL.1); rw [up1_ne _ _ h8, k1 x h8], ?_⟩
    rw [hcv, e2, Option.bind_some, hcv, hg, b2_some]
    simp only [gp, g0, Option.bind_some, u0, hne, if_false, hv]
    have z : bdd 0 := ⟨by decide, by decide⟩
    have hbd := bdd_lawv (vs := vr (nI a) (nI to) (remI (nI M) 60) (nI c) 0 0) (bdd_vr (bdd_nI (by omega)) (bdd_nI (by omega)) (bdd_rem60 hM) (bdd_nI (by omega)) z z) (hP.2.2.2.1.2.1 hS)
    exact congrArg (fun q => some (q, mk S (up1 I1 ls g) L R n)) (fm_eq (by omega) w2 hto hbd)
end CW
