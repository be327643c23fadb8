/-! the class reads a law's line -/
def lawLP (B : BT) (w : Nat) (t : TKN) : LR := if sgB B.1 (nx B t) 58 = true then lawP B w (nx B (nx B t)) else .inl (rf (nx B t) 2)
def setLaw (D : DR) (w : Nat) (l : List Nat) : DR := (D.1, D.2.1, D.2.2.1, fun v => if v = w then l else dL D v)
theorem DfC.more {D : DR} {l m : List Nat} {I : mkI} (h : DfC D l I) : DfC D (l ++ m) I := by
  obtain ⟨h1, h2, h3, h4⟩ := h
  refine ⟨h1, h2, h3, fun w hw => ?_⟩
  obtain ⟨a, b, a1, a2, a3, a4, a5⟩ := h4 w hw
  refine ⟨a, b, a1, a2, a3, by rw [List.length_append]; omega, ?_⟩
  rw [a5, List.drop_append_of_le_length (by omega), List.take_append_of_le_length (by rw [List.length_drop]; omega)]
section CW2
variable {Ls : Nat} {xs : Nat → Int32} {S : mkS} {L : mkL} {R : mkR} {n : Nat × Nat} {B : BT} {w0 : Nat}
def LO (Z : CX0) (B : BT) (w : Nat) (l : List Nat) (D : DR) (r : LR) (v : Int32) (I' : mkI) : Prop := match r with
  | .inl e => v = 0 ∧ FlC e I'
  | .inr (t', l') => v = 1 ∧ PsC Z B w t' (l ++ l') I' ∧ DfC (setLaw D w l') (l ++ l') I'
theorem c_lawEnd (hs : St S R) {w a c : Nat} (hw : w < 3) {v : Int32} (hv : v = 0 ∨ v = 1) {I : mkI} (h11 : I 163 11 = nI c) : F_X7_readLaw_57 (some 163) (nI w) (nI a) v (mk S I L R n) = some (v, mk S (up2 (up2 I 168 w (nI a)) 169 w (nI c)) L R n) := by
  unfold F_X7_readLaw_57
  rw [gr_163_4 hs, Option.bind_some, show sI (mk S I L R n) (some 168) 0 (nI w) (nI a) = some (mk S (up2 I 168 w (nI a)) L R n) from mk_sJ0 (S_168 hs) (by omega) (by decide) (by decide), Option.bind_some, gr_163_5 hs, Option.bind_some, gi_163_11 hs, Option.bind_some, up2_ne _ _ _ (by decide), h11, show sI (mk S (up2 I 168 w (nI a)) L R n) (some 169) 0 (nI w) (nI c) = some (mk S (up2 (up2 I 168 w (nI a)) 169 w (nI c)) L R n) from mk_sJ0 (S_169 hs) (by omega) (by decide) (by decide), Option.bind_some]
  unfold rZ
  rw [if_pos hv]
theorem c_readLaw (hs : St S R) {D : DR} {w : Nat} (hw : w < 3) {t : TKN} {l : List Nat} {I : mkI} (h : PsC (Ls, xs, S, R) B w0 t l I) (hD : DfC D l I) (hg : TKg B.1 B.2 t) (hlt : l.length ≤ t.1) : ∃ I' v, F_X7_readLaw (some 163) (nI w) (mk S I L R n) = some (v, mk S I' L R n) ∧ LO (Ls, xs, S, R) B w l D (lawLP B w t) v I' ∧ kL I I' := by
  have hl := h.len hg hlt
  obtain ⟨I1, q1, q2, q3⟩ := c_adv (L := L) (n := n) hs h hg
  have g1 := nx_g hg
  have hle1 : t.1 ≤ (nx B t).1 := Nat.le_trans hg.1.2.2.1 g1.2
  obtain ⟨I2, v2, r1, r2, r3⟩ := c_takeSign (L := L) (n := n) hs q2 g1.1 hl (c := 58) (by decide)
  have k2 := q3.q.tr r3
  unfold F_X7_readLaw lawLP
  rw [if_neg (nI_pos (by omega)), if_pos (show nI w < 3 from nI_lt (b := 3) hw (by omega)), gr_163_0 hs, Option.bind_some, cv_164 hs, q1, Option.bind_some, cv_163 hs, show F_X7_takeSign (some 163) 58 (mk S I1 L R n) = _ from r1, b2_some]
  by_cases e : ¬ (sgB B.1 (nx B t) 58 = true)
  · rw [if_neg e] at r2 ⊢
    obtain ⟨rfl, r2⟩ := r2
    rw [if_pos rfl, rZ_0]
    exact ⟨I2, 0, rfl, ⟨rfl, r2⟩, k2.l⟩
  have e := Classical.not_not.mp e
  rw [if_pos e] at r2 ⊢
  obtain ⟨rfl, r2⟩ := r2
  have g2 := nx_g g1.1
  have hle2 : (nx B t).1 ≤ (nx B (nx B t)).1 := Nat.le_trans g1.1.1.2.2.1 g2.2
  obtain ⟨J, hJ⟩ : ∃ J, J = up2 I2 163 12 (nI w) := ⟨_, rfl⟩
  have pJ : ∀ j, j ≠ 12 → J 163 j = I2 163 j := fun j hj => by rw [hJ, up2_row, up1_ne _ _ hj]
  have kJ : ∀ y, y ≠ 163 → J y = I2 y := fun y hy => by rw [hJ, up2_ne _ _ _ hy]
  obtain ⟨p1, p2, p3, p4, p5, p6⟩ := r2
  have hP : PsC (Ls, xs, S, R) B w (nx B (nx B t)) l J := ⟨p1.fr (fun _ _ => rfl) (fun a ha => kJ a (by show a ≠ 163; omega)) (fun _ _ => rfl), by unfold TpC; rw [kJ _ (by decide), kJ _ (by decide)]; exact p2, by unfold TkC; rw [kJ _ (by decide)]; exact p3, ⟨by rw [hJ, up2_self], by rw [pJ 13 (by decide)]; exact p4.2.1, by rw [pJ 14 (by decide)]; exact p4.2.2⟩, by rw [pJ _ (by decide)]; exact p5, by rw [kJ _ (by decide)]; exact p6⟩
  have hDJ : DfC D l J := by
    have := hD.q k2
    unfold DfC at this ⊢
    rw [pJ _ (by decide), pJ _ (by decide), pJ _ (by decide), pJ _ (by decide), pJ _ (by decide), kJ _ (by decide), kJ _ (by decide), kJ _ (by decide), kJ _ (by decide)]
    exact this
  have kIJ : kL I J := k2.l.tr (fun y hy => kJ y (by show y ≠ 163; omega))
  rw [if_neg (by decide), pi_163_12 hs, Option.bind_some, ← hJ, gi_163_11 hs, Option.bind_some, hP.2.2.2.2.1, cv_163 hs, cv_163 hs]
  have law : ∃ I3 v3, (if nI w = 2 then mm_b2 ((G_X7_readBoth 64).2.1 (some 163) 0 (mk S J L R n)) (fun v46 h46 => F_X7_readLaw_57 (some 163) (nI w) (nI l.length) v46 h46) else mm_b2 ((G_X7_readAtom 64).2.1 (some 163) 0 (mk S J L R n)) (fun v54 h54 => F_X7_readLaw_57 (some 163) (nI w) (nI l.length) v54 h54)) = F_X7_readLaw_57 (some 163) (nI w) (nI l.length) v3 (mk S I3 L R n) ∧ CO (Ls, xs, S, R) B w l (lawP B w (nx B (nx B t))) v3 I3 ∧ kQ J I3 := by
    unfold lawP
    by_cases e2 : w = 2
    · subst e2
      obtain ⟨I3, v3, s1, s2, s3⟩ := c_truthOf (Ls := Ls) (xs := xs) (L := L) (n := n) hs (c_unitP (L := L) (n := n) hs 6 0 62 rfl (by decide)) (nx B (nx B t)) l J hP g2.1 (by omega)
      have s1' : (G_X7_readBoth 64).2.1 (some 163) 0 (mk S J L R n) = some (v3, mk S I3 L R n) := s1
      rw [if_pos (show nI 2 = (2 : Int32) from rfl), s1', b2_some, if_pos (show (2 : Nat) = 2 from rfl)]
      exact ⟨I3, v3, rfl, s2, s3⟩
    · obtain ⟨I3, v3, s1, s2, s3⟩ := c_sumP (Ls := Ls) (xs := xs) (L := L) (n := n) (B := B) hs (w := w) (by omega) 6 0 64 rfl (by decide) (nx B (nx B t)) l J hP g2.1 (by omega)
      have s1' : (G_X7_readAtom 64).2.1 (some 163) 0 (mk S J L R n) = some (v3, mk S I3 L R n) := s1
      rw [if_neg (show ¬ nI w = 2 from fun z => e2 ((nI_eq (b := 2) (by omega) (by omega)).mp z)), s1', b2_some, if_neg e2]
      exact ⟨I3, v3, rfl, s2, s3⟩
  obtain ⟨I3, v3, s1, s2, s3⟩ := law
  rw [s1]
  have kend : ∀ a b : Int32, kL I3 (up2 (up2 I3 168 w a) 169 w b) := fun a b y hy => by rw [up2_ne _ _ _ (by show y ≠ 169; omega), up2_ne _ _ _ (by show y ≠ 168; omega)]
  cases e3 : lawP B w (nx B (nx B t)) with
  | inl q =>
    rw [e3] at s2
    obtain ⟨rfl, f1, f2, c, f3, f4⟩ := s2
    rw [c_lawEnd hs hw (.inl rfl) f4]
    exact ⟨_, 0, rfl, ⟨rfl, by rw [up2_ne _ _ _ (by decide), up2_ne _ _ _ (by decide)]; exact f1, by rw [up2_ne _ _ _ (by decide), up2_ne _ _ _ (by decide)]; exact f2, c, f3, by rw [up2_ne _ _ _ (by decide), up2_ne _ _ _ (by decide)]; exact f4⟩, (kIJ.tr s3.l).tr (kend _ _)⟩
  | inr q =>
    obtain ⟨t', l'⟩ := q
    rw [e3] at s2
    obtain ⟨rfl, s2⟩ := s2
    obtain ⟨u1, u2, u3, u4, u5, u6⟩ := s2
    have hD3 : DfC D (l ++ l') I3 := (hDJ.q s3).more
    obtain ⟨y1, y2, y3, y4⟩ := hD3
    rw [c_lawEnd hs hw (.inr rfl) u5]
    have kx : ∀ y, y ≠ 168 → y ≠ 169 → (up2 (up2 I3 168 w (nI l.length)) 169 w (nI (l ++ l').length)) y = I3 y := fun y c1 c2 => by rw [up2_ne _ _ _ c2, up2_ne _ _ _ c1]
    refine ⟨_, 1, rfl, ⟨rfl, ⟨u1.fr (fun _ _ => rfl) (fun a ha => kx a (by show a ≠ 168; omega) (by show a ≠ 169; omega)) (fun _ _ => rfl), by unfold TpC; rw [kx _ (by decide) (by decide), kx _ (by decide) (by decide)]; exact u2, by unfold TkC; rw [kx _ (by decide) (by decide)]; exact u3, by rw [kx _ (by decide) (by decide)]; exact u4, by rw [kx _ (by decide) (by decide)]; exact u5, by rw [kx _ (by decide) (by decide)]; exact u6⟩, ⟨by rw [kx _ (by decide) (by decide)]; exact y1, by rw [kx _ (by decide) (by decide), kx _ (by decide) (by decide)]; exact y2, by rw [kx _ (by decide) (by decide), kx _ (by decide) (by decide)]; exact y3, fun v hv => ?_⟩⟩, (kIJ.tr s3.l).tr (kend _ _)⟩
    rw [up2_ne _ _ _ (show (168 : Nat) ≠ 169 by decide), up2_row, up2_row, up2_ne _ _ _ (show (169 : Nat) ≠ 168 by decide)]
    by_cases e4 : v = w
    · refine ⟨l.length, (l ++ l').length, by rw [e4, up1_self], by rw [e4, up1_self], by rw [List.length_append]; omega, Nat.le_refl _, ?_⟩
      show (if v = w then l' else dL D v) = _
      rw [if_pos e4, List.drop_append_of_le_length (Nat.le_refl _), List.drop_length, List.nil_append, List.length_append, Nat.add_sub_cancel_left, List.take_length]
    · obtain ⟨a, b, z1, z2, z3, z4, z5⟩ := y4 v hv
      refine ⟨a, b, by rw [up1_ne _ _ e4]; exact z1, by rw [up1_ne _ _ e4]; exact z2, z3, z4, ?_⟩
      show (if v = w then l' else dL D v) = _
      rw [if_neg e4]; exact z5
end CW2
