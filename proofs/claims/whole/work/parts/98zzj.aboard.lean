/-! a board made of a draft -/
def bN (D : DR) : Nat → Nat → Int32
  | 0 => fun j => if j = 0 then nI (dM D) else if 3 ≤ j ∧ j < 11 then -1 else 0
  | c + 1 => aAdd c (bN D c) (nI (dQ D c).1) (nI (dQ D c).2.1) (nI (dQ D c).2.2.1) (nI (dQ D c).2.2.2)
theorem bN_lo {D : DR} : ∀ (C j : Nat), j ≠ 1 → j < 11 → bN D C j = bN D 0 j
  | 0, _, _, _ => rfl
  | C + 1, j, h1, h2 => by
    show aAdd C (bN D C) _ _ _ _ j = _
    rw [aAdd_old h1 (by omega)]
    exact bN_lo C j h1 h2
theorem bN_1 {D : DR} : ∀ (C : Nat), bN D C 1 = nI C
  | 0 => rfl
  | C + 1 => by
    show aAdd C (bN D C) _ _ _ _ 1 = _
    unfold aAdd
    rw [up1_ne _ _ (by omega), up1_ne _ _ (by omega), up1_ne _ _ (by omega), up1_ne _ _ (by omega), up1_ne _ _ (by omega), up1_ne _ _ (by omega), up1_ne _ _ (by omega), up1_self]
theorem bN_call {D : DR} : ∀ (C c : Nat), c < C → bN D C (11 + 7 * c) = nI (dQ D c).1 ∧ bN D C (12 + 7 * c) = nI (dQ D c).2.1 ∧ bN D C (13 + 7 * c) = nI (dQ D c).2.2.1 ∧ bN D C (14 + 7 * c) = nI (dQ D c).2.2.2 ∧ bN D C (15 + 7 * c) = (if nI (dQ D c).2.2.1 < nI (dM D) then 3 else 0) ∧ bN D C (16 + 7 * c) = -1 ∧ bN D C (17 + 7 * c) = -1
  | 0, c, h => absurd h (Nat.not_lt_zero _)
  | C + 1, c, h => by
    by_cases e : c = C
    · subst e
      show aAdd c (bN D c) _ _ _ _ (11 + 7 * c) = _ ∧ aAdd c (bN D c) _ _ _ _ (12 + 7 * c) = _ ∧ aAdd c (bN D c) _ _ _ _ (13 + 7 * c) = _ ∧ aAdd c (bN D c) _ _ _ _ (14 + 7 * c) = _ ∧ aAdd c (bN D c) _ _ _ _ (15 + 7 * c) = _ ∧ aAdd c (bN D c) _ _ _ _ (16 + 7 * c) = _ ∧ aAdd c (bN D c) _ _ _ _ (17 + 7 * c) = _
      have e0 : bN D c 0 = nI (dM D) := by rw [bN_lo c 0 (by decide) (by decide)]; rfl
      unfold aAdd
      rw [e0]
      refine ⟨?_, ?_, ?_, ?_, ?_, ?_, ?_⟩ <;> simp (disch := omega) only [up1_ne, up1_self]
    · have h' := bN_call (D := D) C c (by omega)
      show aAdd C (bN D C) _ _ _ _ (11 + 7 * c) = _ ∧ aAdd C (bN D C) _ _ _ _ (12 + 7 * c) = _ ∧ aAdd C (bN D C) _ _ _ _ (13 + 7 * c) = _ ∧ aAdd C (bN D C) _ _ _ _ (14 + 7 * c) = _ ∧ aAdd C (bN D C) _ _ _ _ (15 + 7 * c) = _ ∧ aAdd C (bN D C) _ _ _ _ (16 + 7 * c) = _ ∧ aAdd C (bN D C) _ _ _ _ (17 + 7 * c) = _
      rw [aAdd_old (by omega) (by omega), aAdd_old (by omega) (by omega), aAdd_old (by omega) (by omega), aAdd_old (by omega) (by omega), aAdd_old (by omega) (by omega), aAdd_old (by omega) (by omega), aAdd_old (by omega) (by omega)]
      exact h'
def WN (D : DR) : WD := (PD D, (dC D, bN D (dC D)), [])
theorem bN_bi {D : DR} (hG : DG D) : BI (PD D) (dC D) (bN D (dC D)) (fun c => (dQ D c).1) (fun c => (dQ D c).2.1) (fun c => (dQ D c).2.2.1) (fun c => (dQ D c).2.2.2) (dM D) := by
  obtain ⟨⟨a1, a2, a3⟩, a4, ⟨a5, a6⟩, a7⟩ := hG
  have cl := bN_call (D := D) (dC D)
  have n1 : ∀ d, d < dC D → bN D (dC D) (15 + 7 * d) ≠ 1 := fun d hd => by
    rw [(cl d hd).2.2.2.2.1]
    split <;> decide
  refine ⟨⟨a5, bN_1 _, fun c hc => ?_⟩, ?_, fun d hd h => absurd h (n1 d hd), fun d hd h => absurd h (n1 d hd), fun d hd h => ?_, fun c d hc hd _ h => absurd h (n1 c hc), fun l hl => .inl ?_⟩
  · obtain ⟨c1, c2, c3, c4, c5, c6, c7⟩ := cl c hc
    obtain ⟨b1, b2, b3, b4, b5, b6⟩ := a6 c hc
    exact ⟨⟨c1, b1⟩, ⟨c2, b2⟩, b3, ⟨c3, by show (dQ D c).2.2.1 ≤ 200000; omega⟩, c4, b5, b6⟩
  · rw [bN_lo _ 0 (by decide) (by decide)]; rfl
  · obtain ⟨c1, c2, c3, c4, c5, c6, c7⟩ := cl d hd
    obtain ⟨b1, b2, b3, b4, b5, b6⟩ := a6 d hd
    rw [c5] at h
    have hge : dM D ≤ (dQ D d).2.2.1 := by
      refine Nat.le_of_not_lt (fun q => ?_)
      rw [if_pos (nI_lt q (by omega))] at h
      exact absurd h (by decide)
    exact ⟨hge, by show (dQ D d).2.2.1 ≤ dM D + 999; omega, c6, c7⟩
  · rw [bN_lo _ (3 + l) (by omega) (by omega)]
    show (if 3 + l = 0 then _ else if 3 ≤ 3 + l ∧ 3 + l < 11 then (-1 : Int32) else 0) = -1
    rw [if_neg (by omega), if_pos (by omega)]
theorem WN_ok {D : DR} (hG : DG D) {Mx : Nat} (h : 999 ≤ Mx) : WOK Mx (WN D) := by
  refine ⟨PD_ok hG, by show 0 ≤ 10; omega, fun u hu => ?_, ?_⟩
  · have : u = (dC D, bN D (dC D)) := List.mem_singleton.mp hu
    subst this
    exact ⟨_, _, _, _, dM D, bN_bi hG, by have := hG.1.2.2; omega⟩
  · exact List.pairwise_singleton _ _
section ABo
variable {S : mkS} {L : mkL} {R : mkR} {n : Nat × Nat}
theorem pr_8 (hs : St S R) {I : mkI} {v : Int32} (h : I 163 8 = v) : F_X7_calls (some 163) (mk S I L R n) = some (v, mk S I L R n) := by
  unfold F_X7_calls; rw [gi_163_8 hs, Option.bind_some, h]
theorem pr_9 (hs : St S R) {I : mkI} {v : Int32} (h : I 163 9 = v) : F_X7_minute (some 163) (mk S I L R n) = some (v, mk S I L R n) := by
  unfold F_X7_minute; rw [gi_163_9 hs, Option.bind_some, h]
theorem pr_told (hs : St S R) {I : mkI} {D : DR} {l : List Nat} (hD : DfC D l I) {c : Nat} (hc : c < dC D) : (F_X7_toldOf (some 163) (nI c) 0 (mk S I L R n) = some (nI (dQ D c).1, mk S I L R n) ∧ F_X7_toldOf (some 163) (nI c) 1 (mk S I L R n) = some (nI (dQ D c).2.1, mk S I L R n)) ∧ F_X7_toldOf (some 163) (nI c) 2 (mk S I L R n) = some (nI (dQ D c).2.2.1, mk S I L R n) ∧ F_X7_toldOf (some 163) (nI c) 3 (mk S I L R n) = some (nI (dQ D c).2.2.2, mk S I L R n) := by
  obtain ⟨-, -, ⟨d1, d2, d3⟩, -⟩ := hD
  obtain ⟨e1, e2, e3, e4⟩ := d3 c hc
  have go : ∀ j : Nat, j < 4 → F_X7_toldOf (some 163) (nI c) (nI j) (mk S I L R n) = some (I 166 (4 * c + j), mk S I L R n) := fun j hj => by
    unfold F_X7_toldOf F_X7_toldOf_32 F_X7_toldOf_51
    rw [if_neg (nI_pos (by omega)), gi_163_8 hs, Option.bind_some, d1, if_neg (nI_ge hc (by omega)), if_neg (show ¬ (10 : Int32) ≤ nI c from nI_ge (b := 10) (by omega) (by omega)), if_neg (nI_pos (by omega)), if_neg (show ¬ (4 : Int32) ≤ nI j from nI_ge (b := 4) (by omega) (by omega)), if_neg (by decide), gr_163_2 hs, Option.bind_some, show nI c * (4 : Int32) = nI (4 * c) by rw [Nat.mul_comm]; exact nI_mul9 c 4, nI_add, show aI (mk S I L R n) (some 166) 0 (nI (4 * c + j)) = _ from mk_aJ0 (S_166 hs) (by omega) (by decide), Option.bind_some]
  exact ⟨⟨by rw [← e1]; exact go 0 (by decide), by rw [← e2]; exact go 1 (by decide)⟩, by rw [← e3]; exact go 2 (by decide), by rw [← e4]; exact go 3 (by decide)⟩
theorem c_setL (hs : St S R) {D : DR} {l : List Nat} (hG : DG D) {ca co : Nat} (hb : BdS S R 170 ca co) (hca : ¬ (163 ≤ ca ∧ ca ≤ 169)) : ∀ (r g c : Nat) (I : mkI), c + r = dC D → r < g → DfC D l I → (∀ j, j < 81 → I ca j = bN D c j) → ∃ I', F_X0_setUp_21 g (some 170) (some 163) (nI c) (mk S I L R n) = some (mk S I' L R n) ∧ (∀ j, j < 81 → I' ca j = bN D (dC D) j) ∧ ∀ x, x ≠ ca → I' x = I x := by
  intro r
  have hC := hG.2.2.1.1
  induction r with
  | zero =>
    intro g c I hc hg hD h
    obtain ⟨g, rfl⟩ : ∃ y, g = y + 1 := ⟨g - 1, by omega⟩
    have : c = dC D := by omega
    subst this
    refine ⟨I, ?_, h, fun _ _ => rfl⟩
    simp only [F_X0_setUp_21]
    rw [cv_163 hs, pr_8 hs hD.2.2.1.1, b2_some, if_pos (nI_le (Nat.le_refl _) (by omega))]
  | succ r ih =>
    intro g c I hc hg hD h
    obtain ⟨g, rfl⟩ : ∃ y, g = y + 1 := ⟨g - 1, by omega⟩
    obtain ⟨⟨t1, t2⟩, t3, t4⟩ := pr_told (L := L) (n := n) hs hD (show c < dC D by omega)
    obtain ⟨I1, q1, q2, q3⟩ := c_addCall (L := L) (n := n) hb (I := I) (C := c) (by omega) (by rw [h 1 (by decide), bN_1]) (nI (dQ D c).1) (nI (dQ D c).2.1) (nI (dQ D c).2.2.1) (nI (dQ D c).2.2.2)
    have hD1 : DfC D l I1 := by
      unfold DfC at hD ⊢
      rw [q3 163 (by omega), q3 165 (by omega), q3 166 (by omega), q3 168 (by omega), q3 169 (by omega)]
      exact hD
    have hb1 : ∀ j, j < 81 → I1 ca j = bN D (c + 1) j := fun j hj => by
      rw [q2]
      show aAdd c (I ca) _ _ _ _ j = aAdd c (bN D c) _ _ _ _ j
      unfold aAdd
      rw [h 0 (by decide)]
      simp only [up1]
      rw [h j hj]
    obtain ⟨I', s1, s2, s3⟩ := ih g (c + 1) I1 (by omega) (by omega) hD1 hb1
    refine ⟨I', ?_, s2, fun x hx => by rw [s3 x hx, q3 x hx]⟩
    simp only [F_X0_setUp_21]
    rw [cv_163 hs, pr_8 hs hD.2.2.1.1, b2_some, if_neg (nI_ge (by omega) (by omega)), cv_163 hs, t1, b2_some, cv_163 hs, t2, b2_some, cv_163 hs, t3, b2_some, cv_163 hs, t4, b2_some, bd_v hb, q1, b2_some, nI_1]
    exact s1
theorem c_setUp (hs : St S R) {D : DR} {l : List Nat} (hG : DG D) {I : mkI} {p : Nat} (hp : S p = (17, 0)) (hb : BdS S R 170 174 175) (hD : DfC D l I) : ∃ I' R', R' = up2 R 170 2 (some p) ∧ F_X0_setUp (some 170) (some p) (some 163) (mk S I L R n) = some (mk S I' L R' n) ∧ (∀ j, j < 81 → I' 174 j = bN D (dC D) j) ∧ ∀ x, x ≠ 174 → I' x = I x := by
  obtain ⟨R', hR'⟩ : ∃ R', R' = up2 R 170 2 (some p) := ⟨_, rfl⟩
  have hs' : St S R' := hs.b170 (fun x hx => by rw [hR', up2_ne _ _ _ hx]) (fun j hj => by rw [hR', up2_row, up1_ne _ _ hj])
  have hb' : BdS S R' 170 174 175 := by
    obtain ⟨b1, b2, b3, b4, b5, b6⟩ := hb
    exact ⟨b1, by rw [hR', up2_row, up1_ne _ _ (by decide)]; exact b2, by rw [hR', up2_row, up1_ne _ _ (by decide)]; exact b3, b4, b5, b6⟩
  obtain ⟨I1, q1, q2, q3⟩ := c_clear (L := L) (n := n) hb' I
  obtain ⟨I2, hI2⟩ : ∃ I2, I2 = up2 I1 174 0 (nI (dM D)) := ⟨_, rfl⟩
  have k2 : ∀ x, x ≠ 174 → I2 x = I x := fun x hx => by rw [hI2, up2_ne _ _ _ hx, q2 x hx]
  have hD2 : DfC D l I2 := by
    unfold DfC at hD ⊢
    rw [k2 163 (by decide), k2 165 (by decide), k2 166 (by decide), k2 168 (by decide), k2 169 (by decide)]
    exact hD
  obtain ⟨I3, r1, r2, r3⟩ := c_setL (L := L) (n := n) hs' hG hb' (by decide) (dC D) mm_N 0 I2 (by omega) (by have := hG.2.2.1.1; show dC D < 1000000; omega) hD2 (fun j hj => by
    rw [hI2, up2_row]
    show up1 (I1 174) 0 (nI (dM D)) j = if j = 0 then nI (dM D) else if 3 ≤ j ∧ j < 11 then -1 else 0
    by_cases e : j = 0
    · rw [e, up1_self, if_pos rfl]
    · rw [up1_ne _ _ e, if_neg e]; exact q3 j hj)
  refine ⟨I3, R', hR', ?_, r2, fun x hx => by rw [r3 x hx, k2 x hx]⟩
  unfold F_X0_setUp
  rw [mk_pR (c := 0) (by rw [hb.1]) rfl (by decide), Option.bind_some, ← hR', bd_v hb', q1, Option.bind_some, mk_gR (c := 0) (by rw [hb'.1]) rfl, Option.bind_some, hb'.2.1, cv_163 hs', pr_9 hs' (v := nI (dM D)) (by rw [q2 _ (by decide)]; exact hD.1.2.1), b2_some, show sI (mk S I1 L R' n) (some 174) 0 (0 : Int32) (nI (dM D)) = _ from bd_s (k := 0) hb' (by decide), Option.bind_some, ← hI2]
  exact r1
end ABo
