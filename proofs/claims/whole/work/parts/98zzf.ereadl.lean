/-! the reference reads a line, a text -/
theorem wB_ex {tb : Nat → Nat} {t : TKN} {ws ws' : List Nat} (h : wB tb t ws = true) (hne : ws ≠ ws') : wB tb t ws' = false := by
  cases h2 : wB tb t ws' with
  | false => rfl
  | true =>
    refine absurd ?_ hne
    unfold wB at h h2
    rw [Bool.and_eq_true, Bool.and_eq_true, decide_eq_true_eq, decide_eq_true_eq, List.all_eq_true] at h h2
    have hl : ws.length = ws'.length := h.2.1.symm.trans h2.2.1
    refine List.ext_getElem hl (fun i h1 h3 => ?_)
    have e1 := of_decide_eq_true (h.2.2 i (List.mem_range.mpr h1))
    have e2 := of_decide_eq_true (h2.2.2 i (List.mem_range.mpr h3))
    have := e1.symm.trans e2
    simpa [List.getD, h1, h3] using this
theorem ws_dj : wsOf 14 ≠ wsOf 9 ∧ wsOf 14 ≠ wsOf 15 ∧ wsOf 14 ≠ wsOf 19 := by decide +kernel
section E3
variable {Ls : Nat} {xs : Nat → Int32} {S : mkS} {L : mkL} {R : mkR} {n : Nat × Nat} {B : BT}
theorem e_readStop (hs : St S R) {D : DR} {t : TKN} {I : mkI} (h : PN (Ls, xs, S, R) B t I) (hD : DfR D (I 199)) (hG : DG D) (hg : TKg B.1 B.2 t) : ∃ I', F_X12_readStop (some 197) (mk S I L R n) = some (mk S I' L R n) ∧ ETo (Ls, xs, S, R) B (endP B t D) I' ∧ kNl I I' := by
  obtain ⟨I1, q1, q2, q3⟩ := e_mSign (L := L) (n := n) hs h hg (c := 59) (by decide)
  unfold F_X12_readStop F_X12_readStop_23 endP
  rw [cv_197 hs, show F_X12_mustSign (some 197) 59 (mk S I L R n) = _ from q1, Option.bind_some, gi_197_12 hs, Option.bind_some]
  by_cases e : ¬ sgB B.1 t 59 = true
  · rw [if_neg e] at q2 ⊢
    rw [if_neg q2.ne]
    exact ⟨I1, rfl, q2, q3.n⟩
  have e := Classical.not_not.mp e
  rw [if_pos e] at q2 ⊢
  obtain ⟨p1, k1⟩ := q2
  have t1 : I1 199 = I 199 := k1.1 _ (by decide)
  obtain ⟨⟨d1, d2, d3⟩, ⟨d4, d5⟩, d6, d7, d8⟩ := hD
  obtain ⟨J, hJ⟩ : ∃ J, J = up2 I1 199 0 (nI (dT D + 1)) := ⟨_, rfl⟩
  have kJ : kTl I1 J := fun y a => by rw [hJ, up2_ne _ _ _ a]
  have pJ : ∀ j, j ≠ 0 → J 199 j = I 199 j := fun j a => by rw [hJ, up2_row, up1_ne _ _ a, t1]
  rw [p1.2.2.2.1, if_pos rfl, gr_197_1 hs, Option.bind_some, show aI (mk S I1 L R n) (some 199) 0 (0 : Int32) = _ from ai_199 (k := 0) hs (by omega), Option.bind_some, t1, d1, nI_1, show sI (mk S I1 L R n) (some 199) 0 (0 : Int32) (nI (dT D + 1)) = _ from si_199 (k := 0) hs (by omega), Option.bind_some, ← hJ]
  refine ⟨J, rfl, ⟨p1.tl kJ, ⟨by rw [hJ, up2_self], by rw [pJ _ (by omega)]; exact d2, by rw [pJ _ (by omega)]; exact d3⟩, ⟨by rw [pJ _ (by omega)]; exact d4, fun k hk => by rw [pJ _ (by omega)]; exact d5 k hk⟩, ⟨by rw [pJ _ (by omega)]; exact d6.1, fun c hc => by
    rw [pJ _ (by omega), pJ _ (by omega), pJ _ (by omega), pJ _ (by omega), pJ _ (by omega), pJ _ (by omega), pJ _ (by omega)]
    exact d6.2 c hc⟩, ⟨fun l hl => by rw [pJ _ (by omega)]; exact d7.1 l hl, by rw [pJ _ (by omega)]; exact d7.2.1, by rw [pJ _ (by omega)]; exact d7.2.2⟩, fun w hw => ⟨by rw [pJ _ (by omega)]; exact (d8 w hw).1, fun j hj => by rw [pJ _ (by omega)]; exact (d8 w hw).2 j hj⟩⟩, q3.n.tr kJ.n⟩
theorem e_stopF (hs : St S R) {I : mkI} (h : ¬ I 197 12 = 0) : F_X12_readStop (some 197) (mk S I L R n) = some (mk S I L R n) := by
  unfold F_X12_readStop F_X12_readStop_23
  rw [cv_197 hs, e_mustSignF hs h, Option.bind_some, gi_197_12 hs, Option.bind_some, if_neg h]
theorem e_law (hs : St S R) {D : DR} {w : Nat} (hw : w < 3) {t : TKN} {I : mkI} (h : PN (Ls, xs, S, R) B t I) (hD : DfR D (I 199)) (hG : DG D) (hg : TKg B.1 B.2 t) : ∃ I1 I', F_X12_beginsLaw (some 197) (nI (3 + w)) (nI (501 + 900 * w)) (mk S I L R n) = some (mk S I1 L R n) ∧ (if w = 2 then (G_X12_readBoth 64).2.1 (some 197) (mk S I1 L R n) else (G_X12_readAtom 64).2.1 (some 197) (mk S I1 L R n)) = some (mk S I' L R n) ∧ ETo (Ls, xs, S, R) B (match (if sgB B.1 t 58 = true then lawP B w (nx B t) else .inl (rf t 2)) with
  | .inl e => .inl e
  | .inr (t', l) => .inr (t', setLaw D w l)) I' ∧ kNl I I' := by
  obtain ⟨J, hJ⟩ : ∃ J, J = up2 (up2 (up2 I 197 17 (nI (3 + w))) 197 18 (nI (501 + 900 * w))) 199 (3 + w) 0 := ⟨_, rfl⟩
  have mJ : ∀ j, j ≠ 17 → j ≠ 18 → J 197 j = I 197 j := fun j a b => by rw [hJ, up2_ne _ _ _ (by decide), up2_row, up1_ne _ _ b, up2_row, up1_ne _ _ a]
  have xJ : ∀ x, x ≠ 197 → x ≠ 199 → J x = I x := fun x a b => by rw [hJ, up2_ne _ _ _ b, up2_ne _ _ _ a, up2_ne _ _ _ a]
  have tJ : ∀ j, j ≠ 3 + w → J 199 j = I 199 j := fun j a => by rw [hJ, up2_row, up1_ne _ _ a, up2_ne _ _ _ (by decide), up2_ne _ _ _ (by decide)]
  have kJ : kNl I J := ⟨xJ, fun j _ b => mJ j (by omega) (by omega)⟩
  obtain ⟨h1, h2, h3, h4, h5⟩ := h
  have hP : PsR (Ls, xs, S, R) B w 0 t [] J := ⟨h1.fr (fun _ _ => rfl) (fun a ha => xJ a (by show a ≠ 197; omega) (by show a ≠ 199; omega)) (fun _ _ => rfl), by unfold TpR; rw [mJ 7 (by decide) (by decide), xJ _ (by decide) (by decide)]; exact h2, by unfold TkR; rw [mJ 8 (by decide) (by decide), mJ 9 (by decide) (by decide), mJ 10 (by decide) (by decide), mJ 11 (by decide) (by decide)]; exact h3, by rw [mJ 12 (by decide) (by decide)]; exact h4, by rw [mJ 16 (by decide) (by decide)]; exact h5, by rw [hJ, up2_ne _ _ _ (by decide), up2_row, up1_ne _ _ (by decide), up2_self], by rw [hJ, up2_ne _ _ _ (by decide), up2_self], by rw [hJ, up2_self]; rfl, fun j hj => absurd hj (Nat.not_lt_zero _)⟩
  obtain ⟨I1, q1, q2, q3⟩ := e_mustSign (L := L) (n := n) hs hP hg (c := 58) (by decide)
  have hb : F_X12_beginsLaw (some 197) (nI (3 + w)) (nI (501 + 900 * w)) (mk S I L R n) = some (mk S I1 L R n) := by
    unfold F_X12_beginsLaw
    rw [pi_197_17 hs, Option.bind_some, pi_197_18 hs, Option.bind_some, gr_197_1 hs, Option.bind_some, si_199 hs (by omega), Option.bind_some, ← hJ, cv_197 hs, show F_X12_mustSign (some 197) 58 (mk S J L R n) = _ from q1, Option.bind_some]
  refine ⟨I1, ?_⟩
  by_cases e : ¬ sgB B.1 t 58 = true
  · rw [if_neg e] at q2 ⊢
    refine ⟨I1, hb, ?_, q2, kJ.tr q3.n⟩
    by_cases e2 : w = 2
    · rw [if_pos e2]; exact e_truthF hs 64 (by decide) I1 q2.ne
    · rw [if_neg e2]; exact e_sumF hs 64 (by decide) I1 q2.ne
  have e := Classical.not_not.mp e
  rw [if_pos e] at q2 ⊢
  have g2 := (nx_g hg).1
  have law : ∃ I3, (if w = 2 then (G_X12_readBoth 64).2.1 (some 197) (mk S I1 L R n) else (G_X12_readAtom 64).2.1 (some 197) (mk S I1 L R n)) = some (mk S I3 L R n) ∧ EO (Ls, xs, S, R) B w 0 [] (lawP B w (nx B t)) I3 ∧ kE w I1 I3 := by
    unfold lawP
    by_cases e2 : w = 2
    · subst e2
      obtain ⟨I3, s1, s2, s3⟩ := e_truthOf (Ls := Ls) (xs := xs) (L := L) (n := n) hs (e_unitP (L := L) (n := n) hs 6 0 62 rfl (by decide)) (nx B t) [] I1 q2 g2 (Nat.zero_le _)
      rw [if_pos rfl, if_pos rfl]
      exact ⟨I3, s1, s2, s3⟩
    · obtain ⟨I3, s1, s2, s3⟩ := e_sumP (Ls := Ls) (xs := xs) (L := L) (n := n) (B := B) hs (w := w) (by omega) 6 0 64 rfl (by decide) (nx B t) [] I1 q2 g2 (Nat.zero_le _)
      rw [if_neg e2, if_neg e2]
      exact ⟨I3, s1, s2, s3⟩
  obtain ⟨I3, s1, s2, s3⟩ := law
  have kk := (kJ.tr q3.n).tr s3.n
  refine ⟨I3, hb, s1, ?_, kk⟩
  cases e2 : lawP B w (nx B t) with
  | inl q =>
    rw [e2] at s2
    exact s2
  | inr q =>
    obtain ⟨t', l⟩ := q
    rw [e2] at s2
    obtain ⟨u1, u2, u3, u4, u5, u6, u7, u8, u9⟩ := s2
    rw [List.nil_append] at u8 u9
    obtain ⟨⟨d1, d2, d3⟩, ⟨d4, d5⟩, d6, d7, d8⟩ := hD
    obtain ⟨a0, ⟨a4, a5⟩, ⟨a6, a7⟩, a8⟩ := hG
    have tt : ∀ j, j ≠ 3 + w → ¬ (501 + 900 * w ≤ j ∧ j < 1401 + 900 * w) → I3 199 j = I 199 j := fun j a b => by rw [s3.2.2 j a b, q3.2.2 j a b, tJ j a]
    refine ⟨⟨u1, u2, u3, u4, u5⟩, ⟨by rw [tt _ (by omega) (by omega)]; exact d1, by rw [tt _ (by omega) (by omega)]; exact d2, by rw [tt _ (by omega) (by omega)]; exact d3⟩, ⟨by rw [tt _ (by omega) (by omega)]; exact d4, fun k hk => ?_⟩, ⟨by rw [tt _ (by omega) (by omega)]; exact d6.1, fun c hc => ?_⟩, ⟨fun l hl => by rw [tt _ (by omega) (by omega)]; exact d7.1 l hl, by rw [tt _ (by omega) (by omega)]; exact d7.2.1, by rw [tt _ (by omega) (by omega)]; exact d7.2.2⟩, fun v hv => ?_⟩
    · have hk' : k < dK D := hk
      rw [tt _ (by omega) (by omega)]; exact d5 k hk
    · have hc' : c < dC D := hc
      rw [tt _ (by omega) (by omega), tt _ (by omega) (by omega), tt _ (by omega) (by omega), tt _ (by omega) (by omega), tt _ (by omega) (by omega), tt _ (by omega) (by omega), tt _ (by omega) (by omega)]
      exact d6.2 c hc
    · show I3 199 (3 + v) = nI (if v = w then l else dL D v).length ∧ ∀ j, j < (if v = w then l else dL D v).length → I3 199 (501 + 900 * v + j) = nI (gam ((if v = w then l else dL D v).getD j 0))
      by_cases e4 : v = w
      · subst e4
        rw [if_pos rfl]
        exact ⟨u8, u9⟩
      · rw [if_neg e4]
        have hlen := (a8 v hv).1
        exact ⟨by rw [tt _ (by omega) (by omega)]; exact (d8 v hv).1, fun j hj => by rw [tt _ (by omega) (by omega)]; exact (d8 v hv).2 j hj⟩
theorem e_item (hs : St S R) (hB : B.2 ≤ 900) {D : DR} {t : TKN} {I : mkI} (h : PN (Ls, xs, S, R) B t I) (hD : DfR D (I 199)) (hG : DG D) (hg : TKg B.1 B.2 t) : ∃ I', F_X12_readLine (some 197) (mk S I L R n) = F_X12_readLine_136 (some 197) (mk S I' L R n) ∧ ETo (Ls, xs, S, R) B (itemP B D t) I' ∧ kNl I I' := by
  obtain ⟨-, -, -, -, s40, s36, s45, -, -, -, -, -, s35, -, -, s41, s47⟩ := ws_same
  obtain ⟨j1, j2, j3⟩ := ws_dj
  have z0 : b2i false = 0 := rfl
  have z1 : ¬ b2i true = 0 := by decide
  have tk := fun {a : Nat} (ha : a < 51) => e_took0 (L := L) (n := n) hs h hg ha
  have hn := (nx_g hg).1
  have not : ∀ (a b : Nat), a < 51 → wsOf a = wsOf b → wB B.1 t (wsOf b) = false → F_X12_took (some 197) (some a) (mk S I L R n) = some (0, mk S I L R n) := fun a b ha hab hb => by
    obtain ⟨I', q1, q2, q3, q4⟩ := tk ha
    rw [hab, hb] at q1 q4
    rw [q4 rfl] at q1
    exact q1
  have got : ∀ (a b : Nat), a < 51 → wsOf a = wsOf b → wB B.1 t (wsOf b) = true → ∃ I', F_X12_took (some 197) (some a) (mk S I L R n) = some (1, mk S I' L R n) ∧ PN (Ls, xs, S, R) B (nx B t) I' ∧ kM I I' := fun a b ha hab hb => by
    obtain ⟨I', q1, q2, q3, -⟩ := tk ha
    rw [hab, hb] at q1 q2
    rw [if_pos rfl] at q2
    exact ⟨I', q1, q2, q3⟩
  have law : ∀ (w : Nat), w < 3 → ∀ I1, PN (Ls, xs, S, R) B (nx B t) I1 → kM I I1 → ∃ I2 I', F_X12_beginsLaw (some 197) (nI (3 + w)) (nI (501 + 900 * w)) (mk S I1 L R n) = some (mk S I2 L R n) ∧ (if w = 2 then (G_X12_readBoth 64).2.1 (some 197) (mk S I2 L R n) else (G_X12_readAtom 64).2.1 (some 197) (mk S I2 L R n)) = some (mk S I' L R n) ∧ ETo (Ls, xs, S, R) B (lawD B D w t) I' ∧ kNl I I' := fun w hw I1 p1 k1 => by
    obtain ⟨I2, I', y1, y2, y3, y4⟩ := e_law (L := L) (n := n) hs hw p1 (by rw [k1.1 _ (by decide)]; exact hD) hG hn
    exact ⟨I2, I', y1, y2, y3, k1.b.n.tr y4⟩
  unfold F_X12_readLine itemP
  rw [cv_197 hs, e_isW hs h hg (a := 35) (by decide), b2_some, s35]
  by_cases e1 : wB B.1 t (wsOf 4) = true
  · obtain ⟨I', q1, q2, q3⟩ := e_readCord (L := L) (n := n) hs hB h hD hG hg
    rw [if_pos e1, e1, if_neg z1, cv_197 hs, q1, Option.bind_some]
    exact ⟨I', rfl, q2, q3⟩
  rw [if_neg e1, show wB B.1 t (wsOf 4) = false by simpa using e1, if_pos z0, cv_197 hs, e_isW hs h hg (a := 36) (by decide), b2_some, s36]
  by_cases e2 : wB B.1 t (wsOf 5) = true
  · obtain ⟨I', q1, q2, q3⟩ := e_readCall (L := L) (n := n) hs h hD hG hg
    rw [if_pos e2, e2, if_neg z1, cv_197 hs, q1, Option.bind_some]
    exact ⟨I', rfl, q2, q3⟩
  rw [if_neg e2, show wB B.1 t (wsOf 5) = false by simpa using e2, if_pos z0, cv_197 hs]
  by_cases e6 : wB B.1 t (wsOf 14) = true
  · obtain ⟨I1, q1, p1, k1⟩ := got 40 14 (by decide) s40 e6
    obtain ⟨I2, v, i1, i2, -, i3⟩ := e_num (L := L) (n := n) hs p1 hn (lo := 0) (hi := 999) (by omega) (by omega) (e_un1 hn)
    rw [if_neg (by rw [wB_ex e6 j1]; exact Bool.false_ne_true), if_neg (by rw [wB_ex e6 j2]; exact Bool.false_ne_true), if_neg (by rw [wB_ex e6 j3]; exact Bool.false_ne_true), if_pos e6, q1, b2_some, if_neg (by decide), gr_197_1 hs, Option.bind_some, cv_197 hs, show F_X12_number (some 197) 0 999 (mk S I1 L R n) = _ from i1, b2_some, show sI (mk S I2 L R n) (some 199) 0 (47 : Int32) v = _ from si_199 (k := 47) hs (by omega), Option.bind_some]
    refine ⟨_, rfl, ?_, (k1.b.tr i3).n.tr (kTl.n (fun y a => up2_ne _ _ _ a))⟩
    unfold minP
    cases e7 : numP B 0 999 (-1) (nx B t) with
    | inl q =>
      rw [e7] at i2
      have i2 : FlR q I2 := i2
      exact ⟨by rw [up2_ne _ _ _ (by decide)]; exact i2.1, by rw [up2_ne _ _ _ (by decide)]; exact i2.2.1, i2.2.2⟩
    | inr q =>
      obtain ⟨t2, x⟩ := q
      rw [e7] at i2
      obtain ⟨rfl, hx, p2, k2⟩ := i2
      have tt : I2 199 = I 199 := (k2.1 _ (by decide)).trans (k1.1 _ (by decide))
      obtain ⟨J, hJ⟩ : ∃ J, J = up2 I2 199 47 (nI x) := ⟨_, rfl⟩
      have pJ : ∀ j, j ≠ 47 → J 199 j = I 199 j := fun j a => by rw [hJ, up2_row, up1_ne _ _ a, tt]
      rw [← hJ]
      obtain ⟨⟨d1, d2, d3⟩, ⟨d4, d5⟩, d6, d7, d8⟩ := hD
      obtain ⟨a0, ⟨a4, a5⟩, ⟨a6, a7⟩, a8⟩ := hG
      refine ⟨p2.tl (fun y a => by rw [hJ, up2_ne _ _ _ a]), ⟨by rw [pJ _ (by omega)]; exact d1, by rw [pJ _ (by omega)]; exact d2, by rw [hJ, up2_self]⟩, ⟨by rw [pJ _ (by omega)]; exact d4, fun k hk => by rw [pJ _ (by omega)]; exact d5 k hk⟩, ⟨by rw [pJ _ (by omega)]; exact d6.1, fun c hc => ?_⟩, ⟨fun l hl => by rw [pJ _ (by omega)]; exact d7.1 l hl, by rw [pJ _ (by omega)]; exact d7.2.1, by rw [pJ _ (by omega)]; exact d7.2.2⟩, fun w hw => ⟨by rw [pJ _ (by omega)]; exact (d8 w hw).1, fun j hj => by rw [pJ _ (by omega)]; exact (d8 w hw).2 j hj⟩⟩
      have hc' : c < dC D := hc
      rw [pJ _ (by omega), pJ _ (by omega), pJ _ (by omega), pJ _ (by omega), pJ _ (by omega), pJ _ (by omega), pJ _ (by omega)]
      exact d6.2 c hc
  have e6' : wB B.1 t (wsOf 14) = false := by simpa using e6
  rw [not 40 14 (by decide) s40 e6', b2_some, if_pos (show (0 : Int32) = 0 from rfl), cv_197 hs]
  by_cases e3 : wB B.1 t (wsOf 9) = true
  · obtain ⟨I1, q1, p1, k1⟩ := got 41 9 (by decide) s41 e3
    obtain ⟨I2, I3, y1, y2, y3, y4⟩ := law 0 (by omega) I1 p1 k1
    rw [if_neg (by decide)] at y2
    rw [if_pos e3, q1, b2_some, if_neg (by decide), cv_197 hs, show F_X12_beginsLaw (some 197) 3 501 (mk S I1 L R n) = _ from y1, Option.bind_some, cv_197 hs, y2, Option.bind_some]
    exact ⟨I3, rfl, y3, y4⟩
  rw [if_neg e3, not 41 9 (by decide) s41 (by simpa using e3), b2_some, if_pos (show (0 : Int32) = 0 from rfl), cv_197 hs]
  by_cases e4 : wB B.1 t (wsOf 15) = true
  · obtain ⟨I1, q1, p1, k1⟩ := got 45 15 (by decide) s45 e4
    obtain ⟨I2, I3, y1, y2, y3, y4⟩ := law 1 (by omega) I1 p1 k1
    rw [if_neg (by decide)] at y2
    rw [if_pos e4, q1, b2_some, if_neg (by decide), cv_197 hs, show F_X12_beginsLaw (some 197) 4 1401 (mk S I1 L R n) = _ from y1, Option.bind_some, cv_197 hs, y2, Option.bind_some]
    exact ⟨I3, rfl, y3, y4⟩
  rw [if_neg e4, not 45 15 (by decide) s45 (by simpa using e4), b2_some, if_pos (show (0 : Int32) = 0 from rfl), cv_197 hs]
  by_cases e5 : wB B.1 t (wsOf 19) = true
  · obtain ⟨I1, q1, p1, k1⟩ := got 47 19 (by decide) s47 e5
    obtain ⟨I2, I3, y1, y2, y3, y4⟩ := law 2 (by omega) I1 p1 k1
    rw [if_pos rfl] at y2
    rw [if_pos e5, q1, b2_some, if_neg (by decide), cv_197 hs, show F_X12_beginsLaw (some 197) 5 2301 (mk S I1 L R n) = _ from y1, Option.bind_some, cv_197 hs, y2, Option.bind_some]
    exact ⟨I3, rfl, y3, y4⟩
  obtain ⟨I1, q1, q2, q3⟩ := e_bl0 (L := L) (n := n) hs h hg (k := 2) (by omega)
  rw [if_neg e5, if_neg e6, not 47 19 (by decide) s47 (by simpa using e5), b2_some, if_pos (show (0 : Int32) = 0 from rfl), cv_197 hs, show F_X12_blames (some 197) 2 (mk S I L R n) = _ from q1, Option.bind_some]
  exact ⟨I1, rfl, q2, q3.n⟩
theorem e_readLine (hs : St S R) (hB : B.2 ≤ 900) {D : DR} {t : TKN} {I : mkI} (h : PN (Ls, xs, S, R) B t I) (hD : DfR D (I 199)) (hG : DG D) (hg : TKg B.1 B.2 t) : ∃ I', F_X12_readLine (some 197) (mk S I L R n) = some (mk S I' L R n) ∧ ETo (Ls, xs, S, R) B (lineP B D t) I' ∧ kNl I I' := by
  obtain ⟨I1, q1, q2, q3⟩ := e_item (L := L) (n := n) hs hB h hD hG hg
  have ho := itemP_ok hB hG hg
  rw [q1]
  unfold F_X12_readLine_136 lineP
  cases e : itemP B D t with
  | inl q =>
    rw [e] at q2
    have q2 : FlR q I1 := q2
    rw [cv_197 hs, e_stopF hs q2.ne, Option.bind_some]
    exact ⟨I1, rfl, q2, q3⟩
  | inr q =>
    obtain ⟨t1, D1⟩ := q
    rw [e] at q2 ho
    obtain ⟨I2, r1, r2, r3⟩ := e_readStop (L := L) (n := n) hs q2.1 q2.2 ho.2.2 ho.1
    rw [cv_197 hs, r1, Option.bind_some]
    exact ⟨I2, rfl, r2, q3.tr r3⟩
def ETe (r : DLR) (I' : mkI) : Prop := match r with
  | .inl e => FlR e I'
  | .inr (_, D') => I' 197 12 = 0 ∧ DfR D' (I' 199)
theorem ETo.e {Z : CX0} {r : DLR} {I' : mkI} (h : ETo Z B r I') : ETe r I' := by
  cases r with
  | inl e => exact h
  | inr p => exact ⟨h.1.2.2.2.1, h.2⟩
theorem e_lines (hs : St S R) (hB : B.2 ≤ 900) : ∀ (r g : Nat) (t : TKN) (D : DR) (I : mkI), 900 ≤ t.1 + r → r + 1 < g → PN (Ls, xs, S, R) B t I → DfR D (I 199) → DG D → TKg B.1 B.2 t → ∃ I', F_X12_exchange_124 g (some 197) (mk S I L R n) = F_X12_exchange_145 (some 197) (mk S I' L R n) ∧ ETe (linesP B r t D) I' ∧ kNl I I' := by
  intro r
  have out : ∀ (g : Nat) (t : TKN) (I : mkI), 0 < g → PN (Ls, xs, S, R) B t I → TKg B.1 B.2 t → t.2.2 = 0 → F_X12_exchange_124 g (some 197) (mk S I L R n) = F_X12_exchange_145 (some 197) (mk S I L R n) := fun g t I hg' h hg e => by
    obtain ⟨g, rfl⟩ : ∃ y, g = y + 1 := ⟨g - 1, by omega⟩
    obtain ⟨r1, r2, -⟩ := rtk_all hg
    simp only [F_X12_exchange_124]
    rw [gi_197_12 hs, Option.bind_some, h.2.2.2.1, if_pos rfl, gi_197_10 hs, Option.bind_some, h.2.2.1.2.2.1, if_pos (show nI (rtk B.1 t) = 0 by rw [r2.mpr e]; rfl)]
  induction r with
  | zero =>
    intro g t D I hi hg' h hD hG hg
    have e : t.2.2 = 0 := by
      by_cases e : t.2.2 = 0
      · exact e
      · have := hg.1.2.2.2.2 e
        have := hg.1.2.1
        omega
    exact ⟨I, out g t I (by omega) h hg e, ⟨h.2.2.2.1, hD⟩, kNl.rf⟩
  | succ r ih =>
    intro g t D I hi hg' h hD hG hg
    rw [linesP]
    by_cases e : t.2.2 = 0
    · rw [if_pos e]
      exact ⟨I, out g t I (by omega) h hg e, ⟨h.2.2.2.1, hD⟩, kNl.rf⟩
    · rw [if_neg e]
      obtain ⟨g, rfl⟩ : ∃ y, g = y + 1 := ⟨g - 1, by omega⟩
      obtain ⟨r1, r2, -⟩ := rtk_all hg
      obtain ⟨I1, q1, q2, q3⟩ := e_readLine (L := L) (n := n) hs hB h hD hG hg
      have ho := lineP_ok hB hG hg
      have head : F_X12_exchange_124 (g + 1) (some 197) (mk S I L R n) = F_X12_exchange_124 g (some 197) (mk S I1 L R n) := by
        simp only [F_X12_exchange_124]
        rw [gi_197_12 hs, Option.bind_some, h.2.2.2.1, if_pos rfl, gi_197_10 hs, Option.bind_some, h.2.2.1.2.2.1, if_neg (show ¬ nI (rtk B.1 t) = 0 from fun z => e (r2.mp ((nI_eq (b := 0) (by omega) (by omega)).mp z))), cv_197 hs, q1, Option.bind_some]
      rw [head]
      cases e2 : lineP B D t with
      | inl q =>
        rw [e2] at q2
        have q2 : FlR q I1 := q2
        refine ⟨I1, ?_, q2, q3⟩
        obtain ⟨g, rfl⟩ : ∃ y, g = y + 1 := ⟨g - 1, by omega⟩
        simp only [F_X12_exchange_124]
        rw [gi_197_12 hs, Option.bind_some, if_neg q2.ne]
      | inr q =>
        obtain ⟨t1, D1⟩ := q
        rw [e2] at q2 ho
        obtain ⟨I2, s1, s2, s3⟩ := ih g t1 D1 I1 (by have := ho.2.1; omega) (by omega) q2.1 q2.2 ho.2.2 ho.1
        exact ⟨I2, s1, s2, q3.tr s3⟩
theorem e_zeroT (hs : St S R) : ∀ (r g j : Nat) (I : mkI), j + r = 3205 → r < g → (∀ i, i < j → I 199 i = 0) → ∃ I', F_X12_exchange_52 g (some 197) (nI j) (mk S I L R n) = F_X12_exchange_74 mm_N (some 197) 0 (mk S I' L R n) ∧ (∀ i, i < 3205 → I' 199 i = 0) ∧ kTl I I' := by
  intro r
  induction r with
  | zero =>
    intro g j I hj hg h0
    obtain ⟨g, rfl⟩ : ∃ y, g = y + 1 := ⟨g - 1, by omega⟩
    refine ⟨I, ?_, fun i hi => h0 i (by omega), fun _ _ => rfl⟩
    simp only [F_X12_exchange_52]
    rw [if_pos (show (3205 : Int32) ≤ nI j from nI_le (a := 3205) (by omega) (by omega))]
  | succ r ih =>
    intro g j I hj hg h0
    obtain ⟨g, rfl⟩ : ∃ y, g = y + 1 := ⟨g - 1, by omega⟩
    obtain ⟨I', q1, q2, q3⟩ := ih g (j + 1) (up2 I 199 j 0) (by omega) (by omega) (fun i hi => by
      rw [up2_row]
      by_cases e : i = j
      · rw [e, up1_self]
      · rw [up1_ne _ _ e]; exact h0 i (by omega))
    refine ⟨I', ?_, q2, fun x a => by rw [q3 x a, up2_ne _ _ _ a]⟩
    simp only [F_X12_exchange_52]
    rw [if_neg (show ¬ (3205 : Int32) ≤ nI j from nI_ge (b := 3205) (by omega) (by omega)), gr_197_1 hs, Option.bind_some, si_199 hs (by omega), Option.bind_some, nI_1]
    exact q1
theorem e_wedT (hs : St S R) : ∀ (r g l : Nat) (I : mkI), l + r = 8 → r < g → ∃ I', F_X12_exchange_74 g (some 197) (nI l) (mk S I L R n) = F_X12_exchange_74 (g - r) (some 197) 8 (mk S I' L R n) ∧ (∀ i, I' 199 i = if 38 + l ≤ i ∧ i < 46 then -1 else I 199 i) ∧ kTl I I' := by
  intro r
  induction r with
  | zero =>
    intro g l I hl hg
    have : l = 8 := by omega
    subst this
    exact ⟨I, rfl, fun i => by rw [if_neg (by omega)], fun _ _ => rfl⟩
  | succ r ih =>
    intro g l I hl hg
    obtain ⟨g, rfl⟩ : ∃ y, g = y + 1 := ⟨g - 1, by omega⟩
    obtain ⟨I', q1, q2, q3⟩ := ih g (l + 1) (up2 I 199 (38 + l) (-1)) (by omega) (by omega)
    refine ⟨I', ?_, fun i => ?_, fun x a => by rw [q3 x a, up2_ne _ _ _ a]⟩
    · have step : F_X12_exchange_74 (g + 1) (some 197) (nI l) (mk S I L R n) = F_X12_exchange_74 g (some 197) (nI (l + 1)) (mk S (up2 I 199 (38 + l) (-1)) L R n) := by
        simp only [F_X12_exchange_74]
        rw [if_neg (show ¬ (8 : Int32) ≤ nI l from nI_ge (b := 8) (by omega) (by omega)), gr_197_1 hs, Option.bind_some, show (38 : Int32) + nI l = nI (38 + l) from nI_add 38 _, si_199 hs (by omega), Option.bind_some, nI_1]
      rw [step, q1, show g + 1 - (r + 1) = g - r by omega]
    · rw [q2, up2_row]
      by_cases e : i = 38 + l
      · rw [e, if_neg (by omega), up1_self, if_pos (by omega)]
      · rw [up1_ne _ _ e]
        by_cases e2 : 38 + (l + 1) ≤ i ∧ i < 46
        · rw [if_pos e2, if_pos (by omega)]
        · rw [if_neg e2, if_neg (by omega)]
end E3
