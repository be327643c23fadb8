/-! the class reads calls, minutes, the head, ends of lines -/
def nth (r : NR) (f : TKN → Nat → DLR) : DLR := match r with
  | .inl e => .inl e
  | .inr (t, x) => f t x
def wth (B : BT) (a : Nat) (t : TKN) (f : TKN → DLR) : DLR := if wB B.1 t (wsOf a) = true then f (nx B t) else .inl (rf t 2)
def callP (B : BT) (D : DR) (t : TKN) : DLR := if dC D = 10 then .inl (rf t 4) else
  nth (numP B 0 (dW D - 1) (-1) (nx B t)) fun t1 a => wth B 6 t1 fun t2 =>
  nth (numP B 0 (dW D - 1) (nI a) t2) fun t3 b => wth B 7 t3 fun t4 =>
  nth (numP B 0 999 (-1) t4) fun t5 mi => wth B 8 t5 fun t6 =>
  nth (numP B 1 99 (-1) t6) fun t7 la => .inr (t7, (D.1, D.2.1, (dC D + 1, fun c => if c = dC D then (a, b, mi, la) else dQ D c), D.2.2.2))
def minP (B : BT) (D : DR) (t : TKN) : DLR := nth (numP B 0 999 (-1) (nx B t)) fun t1 x => .inr (t1, ((dW D, x, dT D), D.2))
section CCa
variable {Ls : Nat} {xs : Nat → Int32} {S : mkS} {L : mkL} {R : mkR} {n : Nat × Nat} {B : BT} {w : Nat}
theorem c_readMinute (hs : St S R) {D : DR} {t : TKN} {l : List Nat} {I : mkI} (h : PsC (Ls, xs, S, R) B w t l I) (hD : DfC D l I) (hg : TKg B.1 B.2 t) (hl : l.length ≤ 900) : ∃ I' v, F_X7_readMinute (some 163) (mk S I L R n) = some (v, mk S I' L R n) ∧ DO (Ls, xs, S, R) B w l (minP B D t) v I' ∧ kL I I' := by
  obtain ⟨I1, q1, q2, q3⟩ := c_adv (L := L) (n := n) hs h hg
  have hn := nx_g hg
  obtain ⟨I2, v2, r1, r2, r3⟩ := c_takeNumber (L := L) (n := n) hs q2 hn.1 hl (lo := 0) (hi := 999) (by omega) (by omega) (-1)
  have r1' : F_X7_takeNumber (some 163) 0 999 (-1) (mk S I1 L R n) = some (v2, mk S I2 L R n) := r1
  unfold F_X7_readMinute minP
  rw [gr_163_0 hs, Option.bind_some, cv_164 hs, q1, Option.bind_some, cv_163 hs, r1', b2_some]
  cases e : numP B 0 999 (-1) (nx B t) with
  | inl q =>
    rw [e] at r2
    obtain ⟨rfl, r2⟩ := r2
    rw [if_pos rfl, rZ_0]
    exact ⟨I2, 0, rfl, ⟨rfl, r2⟩, (q3.q.tr r3).l⟩
  | inr q =>
    obtain ⟨t', x⟩ := q
    rw [e] at r2
    obtain ⟨rfl, hx, p1, p2, p3, p4, p5, p6⟩ := r2
    obtain ⟨⟨f1, f2, f3, f4, f5, f6⟩, f7, f8, f9⟩ := hD.q (q3.q.tr r3)
    have pJ : ∀ j, j ≠ 9 → (up2 I2 163 9 (nI x)) 163 j = I2 163 j := fun j hj => by rw [up2_row, up1_ne _ _ hj]
    have kJ : ∀ y, y ≠ 163 → (up2 I2 163 9 (nI x)) y = I2 y := fun y hy => up2_ne _ _ _ hy
    rw [if_neg (nI_nm1 (by omega)), pi_163_9 hs, Option.bind_some, rZ_1]
    refine ⟨_, 1, rfl, ⟨rfl, ⟨p1.fr (fun _ _ => rfl) (fun a ha => kJ a (by show a ≠ 163; omega)) (fun _ _ => rfl), by unfold TpC; rw [kJ _ (by decide), kJ _ (by decide)]; exact p2, by unfold TkC; rw [kJ _ (by decide)]; exact p3, by rw [pJ 12 (by decide), pJ 13 (by decide), pJ 14 (by decide)]; exact p4, by rw [pJ _ (by decide)]; exact p5, by rw [kJ _ (by decide)]; exact p6⟩, ⟨⟨by rw [pJ _ (by decide)]; exact f1, up2_self _ _ _ _, by rw [pJ _ (by decide)]; exact f3, f4, f5, by show x ≤ 999; omega⟩, ⟨by rw [pJ _ (by decide)]; exact f7.1, f7.2.1, by rw [kJ _ (by decide)]; exact f7.2.2⟩, ⟨by rw [pJ _ (by decide)]; exact f8.1, f8.2.1, by rw [kJ _ (by decide)]; exact f8.2.2⟩, by rw [kJ _ (by decide), kJ _ (by decide)]; exact f9⟩⟩, (q3.q.tr r3).l.tr (fun y hy => kJ y (by show y ≠ 163; omega))⟩
theorem c_endLine (hs : St S R) {D : DR} {t : TKN} {l : List Nat} {I : mkI} (h : PsC (Ls, xs, S, R) B w t l I) (hD : DfC D l I) (hg : TKg B.1 B.2 t) (hl : l.length ≤ 900) : ∃ I' v, F_X7_endLine (some 163) (mk S I L R n) = some (v, mk S I' L R n) ∧ DO (Ls, xs, S, R) B w l (if sgB B.1 t 59 = true then .inr (nx B t, ((dW D, dM D, dT D + 1), D.2)) else .inl (rf t 2)) v I' ∧ kL I I' := by
  obtain ⟨p1, p2, p3, p4, p5, p6⟩ := h
  obtain ⟨⟨f1, f2, f3, f4, f5, f6⟩, f7, f8, f9⟩ := hD
  obtain ⟨J, hJ⟩ : ∃ J, J = up2 I 163 10 (nI (dT D + 1)) := ⟨_, rfl⟩
  have pJ : ∀ j, j ≠ 10 → J 163 j = I 163 j := fun j hj => by rw [hJ, up2_row, up1_ne _ _ hj]
  have kJ : ∀ y, y ≠ 163 → J y = I y := fun y hy => by rw [hJ, up2_ne _ _ _ hy]
  have hP : PsC (Ls, xs, S, R) B w t l J := ⟨p1.fr (fun _ _ => rfl) (fun a ha => kJ a (by show a ≠ 163; omega)) (fun _ _ => rfl), by unfold TpC; rw [kJ _ (by decide), kJ _ (by decide)]; exact p2, by unfold TkC; rw [kJ _ (by decide)]; exact p3, by rw [pJ 12 (by decide), pJ 13 (by decide), pJ 14 (by decide)]; exact p4, by rw [pJ _ (by decide)]; exact p5, by rw [kJ _ (by decide)]; exact p6⟩
  have hDJ : DfC ((dW D, dM D, dT D + 1), D.2) l J := ⟨⟨by rw [pJ _ (by decide)]; exact f1, by rw [pJ _ (by decide)]; exact f2, by rw [hJ, up2_self], f4, f5, f6⟩, ⟨by rw [pJ _ (by decide)]; exact f7.1, f7.2.1, by rw [kJ _ (by decide)]; exact f7.2.2⟩, ⟨by rw [pJ _ (by decide)]; exact f8.1, f8.2.1, by rw [kJ _ (by decide)]; exact f8.2.2⟩, by rw [kJ _ (by decide), kJ _ (by decide)]; exact f9⟩
  obtain ⟨I2, v2, r1, r2, r3⟩ := c_takeSign (L := L) (n := n) hs hP hg hl (c := 59) (by decide)
  have kI : kL I J := fun y hy => kJ y (by show y ≠ 163; omega)
  unfold F_X7_endLine
  rw [gi_163_10 hs, Option.bind_some, f3, nI_1, pi_163_10 hs, Option.bind_some, ← hJ, cv_163 hs, show F_X7_takeSign (some 163) 59 (mk S J L R n) = _ from r1, b2_some]
  by_cases e : sgB B.1 t 59 = true
  · rw [if_pos e] at r2 ⊢
    obtain ⟨rfl, r2⟩ := r2
    rw [rZ_1]
    exact ⟨I2, 1, rfl, ⟨rfl, r2, hDJ.q r3⟩, kI.tr r3.l⟩
  · rw [if_neg e] at r2 ⊢
    obtain ⟨rfl, r2⟩ := r2
    rw [rZ_0]
    exact ⟨I2, 0, rfl, ⟨rfl, r2⟩, kI.tr r3.l⟩
end CCa
