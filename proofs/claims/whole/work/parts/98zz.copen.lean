/-! the class opens a text -/
theorem c_open {Ls : Nat} {xs : Nat → Int32} {S : mkS} {L : mkL} {R : mkR} {n : Nat × Nat} {tb : Nat → Nat} {N : Nat} (hs : St S R) {I : mkI} (hl : Low Ls xs S I R) (hN : N ≤ 900) (hb : ∀ j, j < N → tb j < 256 ∧ I 129 j = sb (tb j)) : ∃ I', F_X9_open (some 164) (nI N) (mk S I L R n) = some (mk S I' L R n) ∧ TpC tb N I' ∧ TkC tb (lx tb N 0) I' ∧ ∀ x, x ≠ 164 → I' x = I x := by
  obtain ⟨J, hJ⟩ : ∃ J, J = up2 (up2 I 164 1 (nI N)) 164 2 0 := ⟨_, rfl⟩
  have kJ : ∀ x, x ≠ 164 → J x = I x := fun x hx => by rw [hJ, up2_ne _ _ _ hx, up2_ne _ _ _ hx]
  have hT : TpC tb N J := ⟨hN, by rw [hJ, up2_row, up1_ne _ _ (by decide), up2_self], fun j hj => by rw [kJ _ (by decide)]; exact hb j hj⟩
  obtain ⟨I', q1, q2, q3⟩ := c_advance (L := L) (n := n) hs (hl.fr (fun _ _ => rfl) (fun a ha => kJ a (by show a ≠ 164; omega)) (fun _ _ => rfl)) hT (Nat.zero_le _) (by rw [hJ, up2_self]; rfl)
  refine ⟨I', ?_, q3.tp hT, q2, fun x hx => by rw [q3.1 x hx, kJ x hx]⟩
  unfold F_X9_open
  rw [gr_164_0 hs, Option.bind_some, mk_aNt2 (S_129 hs), Option.bind_some, show mxI 0 (mnI (nI N) (nI 900)) = nI N by rw [mnI_nI (by omega) (by omega), Nat.min_eq_left hN, show (0 : Int32) = nI 0 from rfl, mxI_nI (by omega) (by omega), Nat.max_eq_right (Nat.zero_le _)], pi_164_1 hs, Option.bind_some, pi_164_2 hs, Option.bind_some, ← hJ, cv_164 hs, q1, Option.bind_some]
