/-! the class reads the head -/
def headP (B : BT) (D : DR) (t : TKN) : DLR := wth B 3 t fun t1 => nth (numP B 2 8 (-1) t1) fun t2 x => .inr (t2, ((x, dM D, dT D), D.2))
theorem numP_in {B : BT} {lo hi : Nat} {t t' : TKN} {x : Nat} {un : Int32} (h : numP B lo hi un t = .inr (t', x)) : lo ≤ x ∧ x ≤ hi := by
  unfold numP at h
  split at h
  · split at h
    · rename_i z
      cases h
      exact z.1
    · cases h
  · cases h
section CH
variable {Ls : Nat} {xs : Nat → Int32} {S : mkS} {L : mkL} {R : mkR} {n : Nat × Nat} {B : BT} {w : Nat}
theorem c_readHead (hs : St S R) {D : DR} (hK0 : dK D = 0) {t : TKN} {l : List Nat} {I : mkI} (h : PsC (Ls, xs, S, R) B w t l I) (hD : DfC D l I) (hg : TKg B.1 B.2 t) (hl : l.length ≤ 900) : ∃ I' v, F_X7_readHead (some 163) (mk S I L R n) = some (v, mk S I' L R n) ∧ DO (Ls, xs, S, R) B w l (headP B D t) v I' ∧ kL I I' := by
  obtain ⟨I1, v1, q1, q2, q3⟩ := c_takeWord (L := L) (n := n) hs h hg hl (a := 3) (by decide)
  unfold F_X7_readHead headP wth
  rw [cv_163 hs, q1, b2_some]
  by_cases e : ¬ (wB B.1 t (wsOf 3) = true)
  · rw [if_neg e] at q2 ⊢
    obtain ⟨rfl, q2⟩ := q2
    rw [if_pos rfl, rZ_0]
    exact ⟨I1, 0, rfl, ⟨rfl, q2⟩, q3.l⟩
  have e := Classical.not_not.mp e
  rw [if_pos e] at q2 ⊢
  obtain ⟨rfl, q2⟩ := q2
  have g1 := (nx_g hg).1
  obtain ⟨I2, v2, r1, r2, r3⟩ := c_takeNumber (L := L) (n := n) hs q2 g1 hl (lo := 2) (hi := 8) (by omega) (by omega) (-1)
  have r1' : F_X7_takeNumber (some 163) 2 8 (-1) (mk S I1 L R n) = some (v2, mk S I2 L R n) := r1
  have kk := q3.tr r3
  rw [if_neg (by decide), cv_163 hs, r1', b2_some]
  show ∃ I' v, _ ∧ DO _ B w l (nth (numP B 2 8 (-1) (nx B t)) fun t2 x => .inr (t2, ((x, dM D, dT D), D.2))) v I' ∧ _
  cases e2 : numP B 2 8 (-1) (nx B t) with
  | inl q =>
    rw [e2] at r2
    obtain ⟨rfl, r2⟩ := r2
    rw [if_pos rfl, rZ_0]
    exact ⟨I2, 0, rfl, ⟨rfl, r2⟩, kk.l⟩
  | inr q =>
    obtain ⟨t2, x⟩ := q
    rw [e2] at r2
    obtain ⟨rfl, hx, p1, p2, p3, p4, p5, p6⟩ := r2
    have hx2 := numP_in e2
    obtain ⟨⟨f1, f2, f3, f4, f5, f6⟩, f7, f8, f9⟩ := hD.q kk
    have pJ : ∀ j, j ≠ 6 → (up2 I2 163 6 (nI x)) 163 j = I2 163 j := fun j hj => by rw [up2_row, up1_ne _ _ hj]
    have kJ : ∀ y, y ≠ 163 → (up2 I2 163 6 (nI x)) y = I2 y := fun y hy => up2_ne _ _ _ hy
    rw [if_neg (nI_nm1 (by omega)), pi_163_6 hs, Option.bind_some, rZ_1]
    refine ⟨_, 1, rfl, ⟨rfl, ⟨p1.fr (fun _ _ => rfl) (fun a ha => kJ a (by show a ≠ 163; omega)) (fun _ _ => rfl), by unfold TpC; rw [kJ _ (by decide), kJ _ (by decide)]; exact p2, by unfold TkC; rw [kJ _ (by decide)]; exact p3, by rw [pJ 12 (by decide), pJ 13 (by decide), pJ 14 (by decide)]; exact p4, by rw [pJ _ (by decide)]; exact p5, by rw [kJ _ (by decide)]; exact p6⟩, ⟨⟨up2_self _ _ _ _, by rw [pJ _ (by decide)]; exact f2, by rw [pJ _ (by decide)]; exact f3, hx2.1, hx2.2, f6⟩, ⟨by rw [pJ _ (by decide)]; exact f7.1, f7.2.1, fun k hk => absurd (show k < dK D from hk) (by omega)⟩, ⟨by rw [pJ _ (by decide)]; exact f8.1, f8.2.1, by rw [kJ _ (by decide)]; exact f8.2.2⟩, by rw [kJ _ (by decide), kJ _ (by decide)]; exact f9⟩⟩, kk.l.tr (fun y hy => kJ y (by show y ≠ 163; omega))⟩
end CH
