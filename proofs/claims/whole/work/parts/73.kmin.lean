/-! minutes, undo -/
theorem gStep_frc {P : PL} {frc frc' : Nat → Int32} {C c : Nat} {g : Nat → Int32} (h : frc c = frc' c) : gStep P frc C g c = gStep P frc' C g c ∧ gCord P frc C g c = gCord P frc' C g c := by
  unfold gStep gCord cameT
  rw [h]
  exact ⟨rfl, rfl⟩
theorem gRun_frc {P : PL} {frc frc' : Nat → Int32} {C : Nat} : ∀ (l : List Nat) (g : Nat → Int32), (∀ c ∈ l, frc c = frc' c) → gRun P frc C l g = gRun P frc' C l g ∧ gLost P frc C l g = gLost P frc' C l g
  | [], _, _ => ⟨rfl, rfl⟩
  | c :: l, g, h => by
    obtain ⟨h1, h2⟩ := gStep_frc (P := P) (C := C) (g := g) (h c List.mem_cons_self)
    obtain ⟨i1, i2⟩ := gRun_frc (P := P) (C := C) l (gStep P frc' C g c) (fun d hd => h d (List.mem_cons_of_mem _ hd))
    simp only [gRun, gLost]
    rw [h1, h2, i1, i2]
    exact ⟨rfl, rfl⟩
theorem frc_ok0 {P : PL} {frc : Nat → Int32} (h : ∀ j, j < 10 → frc j = -1) : frcOK P frc := fun c hc => .inl (h c hc)
theorem run_0 {P : PL} {frc : Nat → Int32} {C n m : Nat} {f : Nat → Int32} {A : Nat → Nat} (h : ∀ j, j < 10 → frc j = -1) (hC : C ≤ 10) (g : Nat → Int32) : gRun P frc C (evU f A C m n) g = gRun P frc0 C (evU f A C m n) g ∧ gLost P frc C (evU f A C m n) g = gLost P frc0 C (evU f A C m n) g := gRun_frc _ _ (fun c hc => h c (by have := (evU_mem.mp hc).1; omega))
section RMi
variable {S : mkS} {L : mkL} {R : mkR} {n : Nat × Nat} {P : PL}
theorem lost_size {frc : Nat → Int32} {C m : Nat} {f g : Nat → Int32} {A : Nat → Nat} (hC : C ≤ 10) (h : MH) : F_X12_size (nI (bitsN (gLost P frc C (evM f A C m) g) 0)) h = some (nI (gLost P frc C (evM f A C m) g).length, h) := by
  rw [evM_evU]
  have := gLost_evU (P := P) (frc := frc) (f := f) (g := g) (A := A) (m := m) (n := 1) hC
  obtain ⟨q1, q2⟩ := bitsN_len this.1 this.2
  rw [e_size q1, q2]
theorem e_minsL (hs : St S R) (hP : PlOK P) {C : Nat} {f : Nat → Int32} {F T A D : Nat → Nat} {M : Nat} (hB : BI P C f F T A D M) {I0 : mkI} (hKP : RPlan P (I0 198)) (hf : frcOK P (I0 205)) {N : Nat} (hN : M + N ≤ 300000) : ∀ (r g k : Nat) (I : mkI), k + r = N → r < g → MinS P C f A M k I0 I → ∃ I', F_X12_minutes_31 g (some 197) (nI N) (nI (gLost P (I0 205) C (evU f A C M k) f).length) (nI k) (mk S I L R n) = some (nI (gLost P (I0 205) C (evU f A C M N) f).length, mk S I' L R n) ∧ MinS P C f A M N I0 I' := by
  have hC := hB.1.1
  intro r
  induction r with
  | zero =>
    intro g k I hk hg h
    obtain ⟨g, rfl⟩ : ∃ z, g = z + 1 := ⟨g - 1, by omega⟩
    have : k = N := by omega
    subst this
    refine ⟨I, ?_, h⟩
    simp only [F_X12_minutes_31]
    rw [if_pos (nI_le (by omega) (by omega))]
  | succ r ih =>
    intro g k I hk hg h
    obtain ⟨g, rfl⟩ : ∃ z, g = z + 1 := ⟨g - 1, by omega⟩
    obtain ⟨I1, q1, q2, q3⟩ := e_minK (L := L) (n := n) hs hP hB hKP hf (by omega) h
    obtain ⟨I2, r1, r2⟩ := ih g (k + 1) I1 (by omega) (by omega) q2
    refine ⟨I2, ?_, r2⟩
    simp only [F_X12_minutes_31]
    rw [if_neg (nI_ge (by omega) (by omega)), cv_197 hs, q1, Option.bind_some, gi_197_22 hs, Option.bind_some, q3, lost_size hC, b2_some, nI_add, nI_1]
    have e : (gLost P (I0 205) C (evU f A C M (k + 1)) f).length = (gLost P (I0 205) C (evU f A C M k) f).length + (gLost P (I0 205) C (evM f A C (M + k)) (gRun P (I0 205) C (evU f A C M k) f)).length := by
      rw [evU_tail, gLost_app, List.length_append]
    rw [← e]
    exact r1
end RMi
theorem Sub.pass {P : PL} (hP : PlOK P) {frc : Nat → Int32} (hf : frcOK P frc) {C : Nat} {f : Nat → Int32} {F T A D : Nat → Nat} {M : Nat} (h : BI P C f F T A D M) (j : Nat) {u : BB} (hu1 : u.1 = C) (hu : ∀ j, j < 81 → f j = u.2 j) : Sub u (C, fin_ C (M + j) (gRun P frc C (evU f A C M j) f)) := by
  have hC := h.1.1
  refine ⟨by rw [hu1]; exact Nat.le_refl _, fun c i hc hi => ?_⟩
  show u.2 _ = fin_ _ _ _ _
  have hl : ∀ c ∈ evU f A C M j, c < C := fun c hc => (evU_mem.mp hc).1
  rw [fin_ne (by omega) (fun d _ => by omega), gRun_other hP hf (by omega) _ _ h.1 hl (fun d _ => by omega), hu _ (by omega)]
theorem k_minutes (Ls : Nat) (xs : Nat → Int32) (a : Int32) : Good Ls xs (F_L_minutes (some 128) a (some 220)) (F_X12_minutes (some 197) a) := by
  intro k S I L R n ⟨hl, tb, tn, fk, fp, w, tr, im, hC, hR, hG⟩
  obtain ⟨hs, hb, ⟨p, hpl, hp⟩, ⟨c1, c2⟩, hP, hRP, hRB⟩ := inv_all hC hR hG
  obtain ⟨-, g3, g4, F, T, A, D, M, hB, hM, hgo⟩ := hG.opn
  have hf : ∀ j, j < 81 → I 174 j = w.2.1.2 j := fun j hj => x_cells hC hj
  have hB' := hB.congr hf
  have eW : ∀ h, F_X12_within a.toInt64 1 99 h = some (b2i (wI a 1 99), h) := fun h => by rw [e_within]; exact congrArg (fun q => some (b2i q, h)) (inL_wI a 1 99)
  obtain ⟨z9, hz⟩ : ∃ z, z = F_X11_minutes (some 128) a (mk S I L R n) := ⟨_, rfl⟩
  have xl := hz
  unfold F_X11_minutes at xl
  rw [x_within hC, b3_if, b3_thr2, b3_some] at xl
  by_cases h1 : wI a 1 99 = true
  · rw [if_pos h1] at xl
    obtain ⟨j, hj1, hj2, rfl⟩ := (wI_iff (lo := 1) (hi := 99) (by decide) (by decide)).mp h1
    obtain ⟨I1, e1, d1, k1⟩ := x_keep hC g3
    have b1 : I1 174 = I 174 := k1 _ (by decide) (by decide)
    have p1 : CPlan w.1 S R I1 p := hp.keep hC.1.2.1 (fun x q q2 => k1 x (by unfold pa at q; show x ≠ 130; omega) (by unfold pa at q; show x ≠ 131; omega))
    obtain ⟨y1, y2, y3, y4, y5, y6, y7⟩ := id hB'
    obtain ⟨I2, q1, q2, q3⟩ := c_pass (L := L) (n := n) hP hC.1.2.1 hb (cos_b hs) npa_b hpl (I := I1) p1 (M := M) (k := j) (by rw [b1]; exact y1) (by rw [b1]; exact y3) (by rw [b1]; exact fun d hd z => (y4 d hd z).1) (by rw [b1]; exact fun d hd z => (y5 d hd z).1) (by rw [b1]; exact y6) (by rw [b1]; exact y2) (by omega)
    rw [b1] at q1 q2
    obtain ⟨f', hf'⟩ : ∃ f', f' = fin_ w.2.1.1 (M + j) (gRun w.1 frc0 w.2.1.1 (evU (I 174) A w.2.1.1 M j) (I 174)) := ⟨_, rfl⟩
    have kI : ∀ x, ¬ scr x → x ≠ 174 → x ≠ 130 → x ≠ 131 → S (x - 2) ≠ (14, 0) → I2 x = I x := fun x z1 z2 z3 z4 z5 => by
      rw [q3 x z2 (by unfold scr at z1; show x ≠ 175; omega) (by unfold scr at z1; omega) (by unfold scr at z1; omega) (by unfold scr at z1; omega) (by unfold scr at z1; omega) (by unfold scr at z1; omega) z5, k1 x z3 z4]
    have hgN := hgo (w.2.1.1, f') _ _ _ _ _ (by show BI w.1 w.2.1.1 f' F T A D (M + j); rw [hf']; exact hB'.pass hP frc0_ok (by omega)) (by omega) (by rw [hf']; exact Sub.pass hP frc0_ok hB' j rfl hf)
    have dN := d1.eq (q3 130 (by decide) (by decide) (by decide) (by decide) (by decide) (by decide) (by decide) (hs.nst hC.1.2.1 (by decide) (by decide))) (q3 131 (by decide) (by decide) (by decide) (by decide) (by decide) (by decide) (by decide) (hs.nst hC.1.2.1 (by decide) (by decide)))
    have eK : ∀ a, 197 ≤ a → a ≤ 220 → I2 a = I a := fun a q1 q2 => kI a (by unfold scr; omega) (by show a ≠ 174; omega) (by show a ≠ 130; omega) (by show a ≠ 131; omega) (hs.nst hC.1.2.1 (by omega) q2)
    have hK2 : (up2 I2 197 4 0) 198 = I 198 := by rw [up2_ne _ _ _ (by decide)]; exact eK _ (by decide) (by decide)
    rw [x_dd hC, Option.bind_some, x_bd hC, Option.bind_some, mk_cV (by rw [hC.2.2.2.1.2.2.2.1.1]), e1, Option.bind_some, gr_128_5 hs, Option.bind_some, bd_v hb, q1, b2_some] at xl
    obtain ⟨v, hv⟩ : ∃ v, v = nI (gLost w.1 frc0 w.2.1.1 (evU (I 174) A w.2.1.1 M j) (I 174)).length := ⟨_, rfl⟩
    rw [← hv] at xl
    obtain ⟨I3, f1, f2, f3⟩ := e_keeps (L := up2 L 220 0 v.toInt64) (n := n) hs hP (I := up2 I2 197 4 0) (w := w) (by rw [hK2]; exact hR.2.2.1) g3 (fun u hu => g4 u (List.mem_cons_of_mem _ hu))
    have RB3 : RBoard w.2.1.1 (I 174) (I3 198) := f3.2.1.congr hf
    have fr3 : ∀ i, i < 10 → I3 205 i = -1 := fun i hi => by rw [f2 _ (by decide), up2_ne _ _ _ (by decide), eK _ (by decide) (by decide)]; exact hR.2.2.2.2.2 i hi
    obtain ⟨I4, m1, m2, m3⟩ := e_minsL (L := up2 L 220 0 v.toInt64) (n := n) hs hP hB' (I0 := I3) f3.1 (frc_ok0 fr3) (N := j) (by omega) j mm_N 0 I3 (by omega) (by show j < 1000000; omega) (MinS.zero hB' (by omega) RB3)
    obtain ⟨r1, r2⟩ := run_0 (P := w.1) (n := j) (m := M) (f := I 174) (A := A) fr3 c1 (I 174)
    rw [r1, ← hf'] at m3
    have m1' : F_X12_minutes_31 mm_N (some 197) (nI j) 0 0 (mk S I3 (up2 L 220 0 v.toInt64) R n) = some (v, mk S I4 (up2 L 220 0 v.toInt64) R n) := by
      rw [r2, ← hv] at m1; exact m1
    refine pk_brd (v := v) (w' := (w.1, (w.2.1.1, f'), keepU w.2.1 w.2.2)) (I' := I2) (I'' := I4) hl hC hR hgN (L_minutes_0 hs hs (hz.symm.trans xl)) kI (x_CW hC kI (fun j _ => by rw [q2, ← hf']) dN) ?_ ?_ ?_ ?_
    · unfold F_X12_minutes
      rw [pi_197_4 hs, Option.bind_some, eW, b2_some, h1, if_neg (by decide), cv_197 hs, f1, Option.bind_some, m1']
    · rw [m2.2.1 4 (by decide), f2 _ (by decide), up2_self]
    · exact (scW.m4.tr (scW.ofK f2)).tr (scW.ofM m2)
    · exact f3.brd hP m3 (fun v hv => by
        have hv' : v ∈ w.2.1 :: w.2.2 := List.mem_of_mem_take hv
        exact g4 v hv') (by show (keepU w.2.1 w.2.2).length ≤ 10; rw [keepU_len g3]; omega) (fun k hk => m2.2.2 k (by omega))
  · rw [if_neg h1] at xl
    refine pk_thr (t := 1) (by decide) hl hC hR hG (L_minutes_1 hs (hz.symm.trans xl)) (v := 0) ?_
    unfold F_X12_minutes F_X12_fails
    rw [pi_197_4 hs, Option.bind_some, eW, b2_some, if_pos (by rw [b2i_0]; simpa using h1), cv_197 hs, pi_197_4 hs, Option.bind_some, b2_some]
    refine congrArg (fun q => some (0, mk S q L R (n.1 + 1, n.2 + 6))) (funext fun b => funext fun j => ?_)
    simp only [up2]; split <;> rfl
/-! undo -/
theorem WOK.drop {Mx : Nat} {w : WD} (h : WOK Mx w) {k : Nat} (h1 : 1 ≤ k) (h2 : k ≤ w.2.2.length) : WOK Mx (w.1, w.2.2.getD (k - 1) bb0, w.2.2.drop k) := by
  obtain ⟨q1, q2, q3, q4⟩ := h
  have e : w.2.2.getD (k - 1) bb0 :: w.2.2.drop k = w.2.2.drop (k - 1) := by
    have := List.drop_eq_getElem_cons (l := w.2.2) (i := k - 1) (by omega)
    rw [this, show k - 1 + 1 = k by omega, List.getD_eq_getElem?_getD, List.getElem?_eq_getElem (by omega)]
    rfl
  refine ⟨q1, by show (w.2.2.drop k).length ≤ 10; rw [List.length_drop]; omega, fun u hu => ?_, ?_⟩
  · have hu' : u ∈ w.2.2.getD (k - 1) bb0 :: w.2.2.drop k := hu
    rw [e] at hu'
    exact q3 u (List.mem_cons_of_mem _ (List.mem_of_mem_drop hu'))
  · show (w.2.2.getD (k - 1) bb0 :: w.2.2.drop k).Pairwise _
    rw [e]
    exact List.Pairwise.sublist ((List.drop_sublist _ _).trans (List.sublist_cons_self _ _)) q4
theorem RBoard.ofSt {u : BB} {K : Nat → Int32} (h : RSt u K 7) (h1 : u.1 ≤ 10) (h2 : u.2 1 = nI u.1) (h3 : ∀ c, c < u.1 → K (51 + c) = u.2 (11 + 7 * c) ∧ K (61 + c) = u.2 (12 + 7 * c) ∧ K (71 + c) = u.2 (13 + 7 * c) ∧ K (81 + c) = u.2 (14 + 7 * c)) : RBoard u.1 u.2 K := by
  obtain ⟨s1, s2, s3, s4, s5⟩ := h
  refine ⟨h1, h2, s5, by rw [s1, h2], s4, fun l hl => s3 l hl, fun c hc => ?_⟩
  obtain ⟨z1, z2, z3, z4⟩ := h3 c hc
  obtain ⟨y1, y2, y3⟩ := s2 c hc
  exact ⟨z1, z2, z3, z4, y1, y2, y3⟩
section RUn
variable {S : mkS} {L : mkL} {R : mkR} {n : Nat × Nat}
theorem e_undoL (hs : St S R) {N : Nat} (hN : N < 10) : ∀ (r g l : Nat) (I : mkI), l + r = 41 → r < g → I 198 6 = nI N → ∃ I', F_X12_undo_47 g (some 197) (nI l) (mk S I L R n) = some (nI N, mk S I' L R n) ∧ (∀ a, a ≠ 198 → I' a = I a) ∧ (∀ j, l ≤ j → j < 41 → I' 198 (7 + j) = I 198 (91 + 41 * N + j)) ∧ ∀ k, k < 7 + l ∨ 48 ≤ k → I' 198 k = I 198 k := by
  intro r
  induction r with
  | zero =>
    intro g l I hl hg h6
    obtain ⟨g, rfl⟩ : ∃ z, g = z + 1 := ⟨g - 1, by omega⟩
    refine ⟨I, ?_, fun _ _ => rfl, fun j _ _ => by omega, fun _ _ => rfl⟩
    simp only [F_X12_undo_47]
    rw [if_pos (le_li 41 (by omega) (by omega)), gr_197_0 hs, Option.bind_some, ail_198 hs (show 6 < 3205 by decide), Option.bind_some, h6]
  | succ r ih =>
    intro g l I hl hg h6
    obtain ⟨g, rfl⟩ : ∃ z, g = z + 1 := ⟨g - 1, by omega⟩
    obtain ⟨I', q1, q2, q4, q5⟩ := ih g (l + 1) (up2 I 198 (7 + l) (I 198 (91 + 41 * N + l))) (by omega) (by omega) (by rw [up2_row, up1_ne _ _ (by omega)]; exact h6)
    refine ⟨I', ?_, fun a ha => by rw [q2 a ha, up2_ne _ _ _ ha], fun j h1 h2 => ?_, fun k hk => by rw [q5 k (by omega), up2_row, up1_ne _ _ (by omega)]⟩
    · have e9 : (91 : Int32) + (41 : Int32) * nI N + nI l = nI (91 + 41 * N + l) := by
        rw [show (41 : Int32) = nI 41 from rfl, show (91 : Int32) = nI 91 from rfl, nI_mul9, nI_add, nI_add]
      simp only [F_X12_undo_47]
      rw [if_neg (ge_li 41 (by omega) (by omega)), gr_197_0 hs, Option.bind_some, Option.bind_some, Option.bind_some, ail_198 hs (show 6 < 3205 by decide), Option.bind_some, h6, e9, ai_198 hs (show 91 + 41 * N + l < 3205 by omega), Option.bind_some, li_add 7, si_198 hs (show 7 + l < 3205 by omega), Option.bind_some, nI_1, q1]
    · by_cases e : j = l
      · subst e; rw [q5 (7 + j) (by omega), up2_self]
      · rw [q4 j (by omega) h2, up2_row, up1_ne _ _ (by omega)]
end RUn
theorem k_undo (Ls : Nat) (xs : Nat → Int32) (a : Int32) : Good Ls xs (F_L_undo (some 128) a (some 220)) (F_X12_undo (some 197) a) := by
  intro k S I L R n ⟨hl, tb, tn, fk, fp, w, tr, im, hC, hR, hG⟩
  obtain ⟨hs, hb, ⟨p, hpl, hp⟩, ⟨c1, c2⟩, hP, hRP, hRB⟩ := inv_all hC hR hG
  obtain ⟨Mx, hMx, hW, hIm⟩ := id hG
  have g3 := hW.2.1
  obtain ⟨-, -, hf, hd, hDR⟩ := id hC.2.2.2.1
  have e2 : I 130 2 = nI w.2.2.length := by obtain ⟨nx, -, -, h, -⟩ := hDR; exact h
  have eW : ∀ h, F_X12_within a.toInt64 1 10 h = some (b2i (wI a 1 10), h) := fun h => by rw [e_within]; exact congrArg (fun q => some (b2i q, h)) (inL_wI a 1 10)
  obtain ⟨z9, hz⟩ : ∃ z, z = F_X11_undo (some 128) a (mk S I L R n) := ⟨_, rfl⟩
  have xl := hz
  unfold F_X11_undo F_X3_many at xl
  rw [x_dd hC, Option.bind_some, dd_v hd, dd_2 hd, Option.bind_some, b2_some, e2, x_within hC, b3_if, b3_thr2, b3_some] at xl
  have fa : ∀ n, F_X12_undo_28 (some 197) (mk S (up2 I 197 4 0) L R n) = some (0, mk S (up2 I 197 4 1) L R n) := fun n => by
    unfold F_X12_undo_28 F_X12_fails
    rw [cv_197 hs, pi_197_4 hs, Option.bind_some, b2_some]
    refine congrArg (fun q => some (0, mk S q L R n)) (funext fun b => funext fun j => ?_)
    simp only [up2]; split <;> rfl
  have h6 : I 198 6 = nI w.2.2.length := hR.2.2.1.2.2.1
  by_cases h1 : wI a 1 (nI w.2.2.length) = true
  · rw [if_pos h1] at xl
    obtain ⟨j, hj1, hj2, rfl⟩ := (wI_iff (lo := 1) (by decide) (by omega)).mp h1
    obtain ⟨I1, e1, d1, b1, k1⟩ := c_takeBack (L := L) (n := n) hb hd g3 hDR hj1 hj2
    have e2' : I1 130 2 = nI (w.2.2.drop j).length := by obtain ⟨nx, -, -, h, -⟩ := d1; exact h
    rw [x_dd hC, Option.bind_some, x_bd hC, Option.bind_some, dd_v hd, e1, Option.bind_some, gr_128_6 hs, Option.bind_some, dd_v hd, dd_2 hd, Option.bind_some, b2_some, e2', List.length_drop] at xl
    have kI : ∀ x, ¬ scr x → x ≠ 174 → x ≠ 130 → x ≠ 131 → S (x - 2) ≠ (14, 0) → I1 x = I x := fun x _ z2 z3 _ _ => k1 x z3 z2
    have hgN : GOK k (w.1, w.2.2.getD (j - 1) bb0, w.2.2.drop j) im := ⟨Mx, by omega, hW.drop hj1 hj2, hIm⟩
    have eK : ∀ a, 197 ≤ a → a ≤ 220 → I1 a = I a := fun a q1 q2 => k1 a (by show a ≠ 130; omega) (by show a ≠ 174; omega)
    have hK2 : (up2 I1 197 4 0) 198 = I 198 := by rw [up2_ne _ _ _ (by decide)]; exact eK _ (by decide) (by decide)
    obtain ⟨I2, hI2⟩ : ∃ J, J = up2 (up2 I1 197 4 0) 198 6 (nI (w.2.2.length - j)) := ⟨_, rfl⟩
    have h62 : I2 198 6 = nI (w.2.2.length - j) := by rw [hI2, up2_self]
    have ko2 : ∀ q, q ≠ 6 → I2 198 q = I 198 q := fun q hq => by rw [hI2, up2_row, up1_ne _ _ hq, hK2]
    obtain ⟨I3, f1, f2, f3, f4⟩ := e_undoL (L := up2 L 220 0 (nI (w.2.2.length - j)).toInt64) (n := n) hs (N := w.2.2.length - j) (by omega) 41 mm_N 0 I2 (by omega) (by show 41 < 1000000; omega) h62
    have ko : ∀ q, q ≠ 6 → q < 7 ∨ 48 ≤ q → I3 198 q = I 198 q := fun q z1 z2 => by rw [f4 q (by omega), ko2 q z1]
    have hlt : w.2.2.length - j < w.2.2.length := by omega
    have st := hR.2.2.1.2.2.2 (w.2.2.length - j) hlt
    rw [revD hlt, show w.2.2.length - 1 - (w.2.2.length - j) = j - 1 by omega] at st
    have hmem : w.2.2.getD (j - 1) bb0 ∈ w.2.2 := by
      rw [List.getD_eq_getElem?_getD, List.getElem?_eq_getElem (by omega)]
      exact List.getElem_mem _
    obtain ⟨F, T, A, D, M, hB, -⟩ := hW.2.2.1 _ (List.mem_cons_of_mem _ hmem)
    have hsub := (List.pairwise_cons.mp hW.2.2.2).1 _ hmem
    have st7 : RSt (w.2.2.getD (j - 1) bb0) (I3 198) 7 := st.mv hB.1.1 (fun i hi => by rw [f3 i (by omega) hi, ko2 _ (by omega)])
    have RBn : RBoard (w.2.2.getD (j - 1) bb0).1 (w.2.2.getD (j - 1) bb0).2 (I3 198) := RBoard.ofSt st7 hB.1.1 hB.1.2.1 (fun c hc => by
      have hc10 := hB.1.1
      have hc' : c < w.2.1.1 := by have := hsub.1; omega
      obtain ⟨q1, q2, q3, q4, -⟩ := hR.2.2.1.2.1.2.2.2.2.2.2 c hc'
      rw [ko _ (by omega) (by omega), ko _ (by omega) (by omega), ko _ (by omega) (by omega), ko _ (by omega) (by omega), q1, q2, q3, q4]
      have s0 := hsub.2 c 0 hc (by omega)
      have s1 := hsub.2 c 1 hc (by omega)
      have s2 := hsub.2 c 2 hc (by omega)
      have s3 := hsub.2 c 3 hc (by omega)
      rw [Nat.add_zero] at s0
      rw [show 11 + 7 * c + 1 = 12 + 7 * c by omega] at s1
      rw [show 11 + 7 * c + 2 = 13 + 7 * c by omega] at s2
      rw [show 11 + 7 * c + 3 = 14 + 7 * c by omega] at s3
      exact ⟨s0.symm, s1.symm, s2.symm, s3.symm⟩)
    have s6 : ∀ L, sI (mk S (up2 I1 197 4 0) L R n) (some 198) 0 (6 : Int32) (nI (w.2.2.length - j)) = some (mk S I2 L R n) := fun L => by rw [hI2]; exact si_198 (k := 6) hs (by decide)
    refine pk_brd (v := nI (w.2.2.length - j)) (w' := (w.1, w.2.2.getD (j - 1) bb0, w.2.2.drop j)) (I' := I1) (I'' := I3) hl hC hR hgN (L_undo_0 hs hs (hz.symm.trans xl)) kI (x_CW hC kI b1 d1) ?_ ?_ ?_ ?_
    · have h10 : wI (nI j) 1 10 = true := (wI_iff (lo := 1) (hi := 10) (by decide) (by decide)).mpr ⟨j, hj1, by omega, rfl⟩
      unfold F_X12_undo
      rw [pi_197_4 hs, Option.bind_some, eW, b2_some, h10, if_neg (by decide), gr_197_0 hs, Option.bind_some, ail_198 hs (show 6 < 3205 by decide), Option.bind_some, hK2, h6, if_pos (nI_le hj2 (by omega)), Option.bind_some, ail_198 hs (show 6 < 3205 by decide), Option.bind_some, hK2, h6, nI_sub hj2, s6, Option.bind_some]
      exact f1
    · rw [f2 _ (by decide), hI2, up2_ne _ _ _ (by decide), up2_self]
    · exact (scW.m4.tr (scW.ofK (fun a ha => by rw [hI2, up2_ne _ _ _ ha]))).tr (scW.ofK f2)
    · refine ⟨hRP.keep3 hP (fun q hq => ko q (by omega) (by omega)), RBn, ?_, fun i hi => ?_⟩
      · show I3 198 6 = nI (w.2.2.drop j).length
        rw [f4 6 (by omega), h62, List.length_drop]
      · have hi' : i < (w.2.2.drop j).length := hi
        rw [List.length_drop] at hi'
        show RSt ((w.2.2.drop j).reverse.getD i bb0) _ _
        have old := hR.2.2.1.2.2.2 i (by omega)
        rw [revD (by omega)] at old
        rw [revD (by rw [List.length_drop]; exact hi'), List.length_drop, List.getD_eq_getElem?_getD, List.getElem?_drop, ← List.getD_eq_getElem?_getD, show j + (w.2.2.length - j - 1 - i) = w.2.2.length - 1 - i by omega]
        have hm2 : w.2.2.getD (w.2.2.length - 1 - i) bb0 ∈ w.2.2 := by
          rw [List.getD_eq_getElem?_getD, List.getElem?_eq_getElem (by omega)]
          exact List.getElem_mem _
        obtain ⟨F2, T2, A2, D2, M2, hB2, -⟩ := hW.2.2.1 _ (List.mem_cons_of_mem _ hm2)
        exact old.mv hB2.1.1 (fun z _ => ko _ (by omega) (by omega))
  · rw [if_neg h1] at xl
    refine pk_thr (t := 1) (by decide) hl hC hR hG (L_undo_1 hs (hz.symm.trans xl)) (v := 0) ?_
    unfold F_X12_undo
    rw [pi_197_4 hs, Option.bind_some, eW, b2_some]
    by_cases h10 : wI a 1 10 = true
    · rw [h10, if_neg (by decide), gr_197_0 hs, Option.bind_some, ail_198 hs (show 6 < 3205 by decide), Option.bind_some, up2_ne _ _ _ (by decide), h6, if_neg (fun q => h1 (by
        unfold wI at h10 ⊢
        simp only [Bool.and_eq_true, decide_eq_true_eq] at h10 ⊢
        exact ⟨h10.1, q⟩)), fa]
    · rw [if_pos (by rw [b2i_0]; simpa using h10), fa]
