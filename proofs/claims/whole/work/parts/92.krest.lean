/-! restore -/
section WDc
variable {tb : Nat → Nat} {tn : Nat} {fk fp : Int32} {w w' : WD} {tr : TR} {im : IM} {k : Nat} {S : mkS} {I I' : mkI} {L : mkL} {R R' : mkR} {n : Nat × Nat}
theorem St.b170 (hs : St S R) (hR : ∀ x, x ≠ 170 → R' x = R x) (hR2 : ∀ j, j ≠ 2 → R' 170 j = R 170 j) : St S R' := by
  refine ⟨hs.1, fun q hq => ?_⟩
  by_cases e : q.1 = 170
  · have key : ∀ q ∈ stR, q.1 = 170 → q.2.1 ≠ 2 := by decide +kernel
    rw [e, hR2 _ (key q hq e), ← e]; exact hs.2 q hq
  · rw [hR _ e]; exact hs.2 q hq
theorem InvC.wd (h : InvC tb tn fk fp w tr im k S I L R n) (hI : ∀ x, x ≠ 174 → x ≠ 130 → x ≠ 131 → I' x = I x) (hR : ∀ x, x ≠ 170 → R' x = R x) (hR2 : ∀ j, j ≠ 2 → R' 170 j = R 170 j) (hw : CW w' S R' I' 170 174 175 130 131) : InvC tb tn fk fp w' tr im k S I' L R' n := by
  obtain ⟨⟨s1, s2, s3, s4, s5, s6⟩, ⟨t1, t2, t3⟩, ⟨u1, u2⟩, v1, v2, v3, v4⟩ := h
  have fI : ∀ x, pa x → fineA S x → I' x = I x := fun x hx _ => by
    unfold pa at hx
    exact hI x (by show x ≠ 174; omega) (by show x ≠ 130; omega) (by show x ≠ 131; omega)
  have fR : ∀ x, S x = (17, 0) ∨ S x = (14, 0) → R' x = R x := fun x hx => hR x (fun e => by subst e; rw [S_170 s1] at hx; simp at hx)
  refine ⟨⟨s1.b170 hR hR2, s2, s3, s4, s5, s6⟩, ⟨t1, by rw [hI _ (by decide) (by decide) (by decide)]; exact t2, by rw [hI _ (by decide) (by decide) (by decide)]; exact t3⟩, by rw [hI _ (by decide) (by decide) (by decide)]; exact ⟨u1, u2⟩, hw, fun t ht => ?_, ⟨?_, fun i hi => ?_⟩, ?_⟩
  · have := v2 t ht
    rw [hI _ (by show _ ≠ 174; omega) (by show _ ≠ 130; omega) (by show _ ≠ 131; omega)]
    exact this
  · rw [hR 132 (by decide)]; exact v3.1
  · have := v3.2 i hi
    revert this
    rw [hR 132 (by decide), hR 133 (by decide)]
    cases im i with
    | none => exact id
    | some w =>
      rintro ⟨a, a1, a2, a3, a4⟩
      refine ⟨a, a1, a2, a3, a4.kk (hI _ ?_ ?_ ?_) (hI _ ?_ ?_ ?_) (hI _ ?_ ?_ ?_) fI fR (hR _ ?_) (hR _ ?_)⟩
      · show _ ≠ 174; omega
      · show _ ≠ 130; omega
      · show _ ≠ 131; omega
      · show _ ≠ 174; omega
      · show _ ≠ 130; omega
      · show _ ≠ 131; omega
      · show _ ≠ 174; omega
      · show _ ≠ 130; omega
      · show _ ≠ 131; omega
      · show _ ≠ 170; omega
      · show _ ≠ 170; omega
  · rcases v4 with v4 | ⟨p, P, p1, p2, p3, p4⟩
    · exact .inl (by rw [hR 157 (by decide)]; exact v4)
    · refine .inr ⟨p, P, by rw [hR 157 (by decide)]; exact p1, p2, p3.kk fI fR, ?_⟩
      unfold PRes at *
      rw [hI 157 (by decide) (by decide) (by decide), hI 159 (by decide) (by decide) (by decide), hI 160 (by decide) (by decide) (by decide)]
      exact p4
theorem x_needImage (h : InvC tb tn fk fp w tr im (k + 1) S I L R n) (a : Int32) : F_X11_needImage a (mk S I L R n) = if isL 3 a = true then some (.inr (), mk S I L R n) else thr "java/util/NoSuchElementException" S I L R n := by
  unfold F_X11_needImage F_X11_needImage_9 isL
  rw [h.thr]
  by_cases h1 : a < 0
  · simp [h1]; rfl
  · have e3 : nI 3 = 3 := rfl
    by_cases h2 : a < 3 <;> simp [h1, h2, e3] <;> rfl
theorem e_restL (hs : St S R) {i : Nat} (hi : i < 3) : ∀ (r g j : Nat) (I : mkI), j + r = 3205 → r < g → ∃ I', F_X12_restore_44 g (some 197) (nI i) (nI j) (mk S I L R n) = some (mk S I' L R n) ∧ (∀ x, x ≠ 198 → I' x = I x) ∧ ∀ q, q < 3205 → I' 198 q = if j ≤ q then I 200 (3205 * i + q) else I 198 q := by
  intro r
  induction r with
  | zero =>
    intro g j I hj hg
    obtain ⟨g, rfl⟩ : ∃ z, g = z + 1 := ⟨g - 1, by omega⟩
    have : j = 3205 := by omega
    subst this
    refine ⟨I, ?_, fun _ _ => rfl, fun q hq => by rw [if_neg (by omega)]⟩
    simp only [F_X12_restore_44]
    rw [if_pos (by decide)]
  | succ r ih =>
    intro g j I hj hg
    obtain ⟨g, rfl⟩ : ∃ z, g = z + 1 := ⟨g - 1, by omega⟩
    obtain ⟨I', q1, q2, q3⟩ := ih g (j + 1) (up2 I 198 j (I 200 (3205 * i + j))) (by omega) (by omega)
    refine ⟨I', ?_, fun x hx => by rw [q2 x hx, up2_ne _ _ _ hx], fun q hq => ?_⟩
    · simp only [F_X12_restore_44]
      rw [if_neg (ge_li 3205 (by omega) (by decide)), gr_197_0 hs, Option.bind_some, gr_197_2 hs, Option.bind_some, show (3205 : Int32) * nI i = nI (3205 * i) from nI_mul9 3205 i, nI_add, ai_200 hs (by omega), Option.bind_some, si_198 hs (by omega), Option.bind_some, nI_1]
      exact q1
    · rw [q3 q hq]
      by_cases e : j + 1 ≤ q
      · rw [if_pos e, if_pos (by omega), up2_ne _ _ _ (by decide)]
      · rw [if_neg e]
        by_cases e2 : q = j
        · subst e2; rw [up2_self, if_pos (Nat.le_refl _)]
        · rw [if_neg (by omega), up2_row, up1_ne _ _ e2]
end WDc
section PKV
variable {Ls : Nat} {xs : Nat → Int32} {tb : Nat → Nat} {tn : Nat} {fk fp : Int32} {w : WD} {tr : TR} {im : IM} {k : Nat} {S S' : mkS} {I I' I'' : mkI} {L L' L'' : mkL} {R R' : mkR} {n n' : Nat × Nat} {c : MH → Option (Int32 × MH)} {m : MH → Option MH}
theorem pkV_ok {t : Int32} (hl : Low Ls xs S I R) (hc : c (mk S I L R n) = some (t, mk S' I' L' R' n')) (hm : m (mk S' I' L' R' n') = some (mk S' I'' L'' R' n')) (h4 : I'' 197 4 = t) (fC : FrC S S' I I' L L' R R') (fR : FrR I' I'' L' L'') (h1 : InvC tb tn fk fp w tr im k S' I' L' R' n') (h2 : InvR tb tn fk fp w tr im I'' L'') (h3 : GOK k w im) : ∃ t S' I' L' R' n' I'' L'', c (mk S I L R n) = some (t, mk S' I' L' R' n') ∧ m (mk S' I' L' R' n') = some (mk S' I'' L'' R' n') ∧ I'' 197 4 = t ∧ AllK Ls xs k S' I' I'' L'' R' n' :=
  ⟨t, S', I', L', R', n', I'', L'', hc, hm, h4, AllInv.of hl fC fR h1 h2 h3⟩
end PKV
theorem InvR.rst {tb : Nat → Nat} {tn : Nat} {fk fp : Int32} {w w' : WD} {tr : TR} {im : IM} {I I' : mkI} {L : mkL} (h : InvR tb tn fk fp w tr im I L) (hI : ∀ a, a ≠ 198 → I' a = I a) (hw : RW w' (I' 198)) : InvR tb tn fk fp w' tr im I' L := by
  obtain ⟨h1, h2, h3, h4, h5, h6⟩ := h
  unfold InvR RTr RIm at *
  rw [hI 197 (by decide), hI 202 (by decide), hI 205 (by decide), hI 217 (by decide), hI 218 (by decide), hI 201 (by decide), hI 200 (by decide)]
  exact ⟨h1, h2, hw, h4, h5, h6⟩
theorem k_restore (Ls : Nat) (xs : Nat → Int32) (a : Int32) : GoodV Ls xs (F_L_restore (some 128) a) (F_X12_restore (some 197) a) := by
  intro k S I L R n ⟨hl, tb, tn, fk, fp, w, tr, im, hC, hR, hG⟩
  have hs := hC.1.1
  have e2 := fun h => e_in a 0 2 h
  rw [show (0 : Int32).toInt64 = 0 by decide, show (2 : Int32).toInt64 = 2 by decide] at e2
  have hin : wI a 0 2 = true ↔ ∃ j, 0 ≤ j ∧ j ≤ 2 ∧ a = nI j := wI_iff (lo := 0) (hi := 2) (by decide) (by decide)
  by_cases h1 : isL 3 a = true
  · obtain ⟨i, hi, rfl⟩ := (isL_iff (by decide)).mp h1
    have hw2 : wI (nI i) 0 2 = true := hin.mpr ⟨i, by omega, by omega, rfl⟩
    have hm := hR.2.2.2.2.1 i hi
    have hc := hC.2.2.2.2.2.1.2 i hi
    cases him : im i with
    | none =>
      rw [him] at hm hc
      refine pkV_ok (t := 2) (I'' := up2 I 197 4 2) (L'' := L) hl (L_restore_2 hs (S' := S) (I' := I) (L' := L) (R' := R) (n' := (n.1 + 1, n.2 + 6)) ?_) ?_ (up2_self _ _ _ _) FrC.rf (FrR.up (by decide)) hC.exc (hR.m4 2) hG.le
      · unfold F_X11_restore F_X11_restore_22
        rw [x_needImage hC, if_pos h1, b3_some, gr_128_8 hs, Option.bind_some, ar_132 hs hi, Option.bind_some, hc, if_pos rfl, hC.thr]
        rfl
      · unfold F_X12_restore F_X12_restore_31
        rw [e2, hw2, b2_some, if_neg (by decide), gr_197_3 hs, Option.bind_some, ai_201 hs hi, Option.bind_some, hm, if_pos rfl, pi_197_4 hs, Option.bind_some, gi_197_4 hs, Option.bind_some, up2_self, if_neg (by decide)]
    | some w' =>
      rw [him] at hm hc
      obtain ⟨z, z1, z2, z3, z4⟩ := hc
      obtain ⟨hb, -, -, hd, -⟩ := id hC.2.2.2.1
      obtain ⟨I1, I', R', q1, q2, q3, q4, q5, q6⟩ := c_cpW (L := L) (n := n) hb hd z4 (by omega) (by omega) (by omega) (by show S 173 ≠ _; rw [S_173 hs]; decide) (by show S 130 ≠ _; rw [S_130 hs]; decide)
      have hs' := hs.b170 q4 q5
      have hC' := hC.le.wd q3 q4 q5 q6
      have fC : FrC S S I I' L L R R' := ⟨fun a q => ⟨rfl, q3 a (by show a ≠ 174; omega) (by show a ≠ 130; omega) (by show a ≠ 131; omega), q4 a (by show a ≠ 170; omega)⟩, fun _ _ => rfl⟩
      have hR' := (hR.ofC fC).m4 0
      obtain ⟨I'', r1, r2, r3⟩ := e_restL (S := S) (R := R') (L := L) (n := n) hs' hi 3205 mm_N 0 (up2 I' 197 4 0) (by omega) (by unfold mm_N; decide)
      have hm' := hR'.2.2.2.2.1 i hi
      rw [him] at hm'
      obtain ⟨Mx, g1, g2, g3⟩ := hG.le
      have hw' : WOK Mx w' := g3 i w' him
      refine pkV_ok (t := 0) (I'' := I'') (L'' := L) (w := w') hl (L_restore_0 hs (S' := S) (I' := I') (L' := L) (R' := R') (n' := n) ?_) ?_ ?_ fC (fun x hx => ⟨?_, rfl⟩) hC' ?_ ⟨Mx, g1, hw', g3⟩
      · unfold F_X11_restore
        rw [x_needImage hC, if_pos h1, b3_some, gr_128_8 hs, Option.bind_some, ar_132 hs hi, Option.bind_some, z1, if_neg (by simp), gr_128_9 hs, Option.bind_some, ar_133 hs hi, Option.bind_some, z2, if_neg (by simp), gr_128_5 hs, Option.bind_some, Option.bind_some, ar_132 hs hi, Option.bind_some, z1, bd_v hb, q1, Option.bind_some, gr_128_6 hs', Option.bind_some, gr_128_9 hs', Option.bind_some, ar_133 hs' hi, Option.bind_some, q4 133 (by decide), z2, dd_v (by rw [show R' = R' from rfl]; exact q6.2.2.2.1), q2, Option.bind_some]
      · unfold F_X12_restore F_X12_restore_31
        have hm1 : I' 201 i = 1 := by
          have := hm'.1
          rw [up2_ne _ _ _ (by decide)] at this
          exact this
        rw [e2, hw2, b2_some, if_neg (by decide), gr_197_3 hs', Option.bind_some, ai_201 hs' hi, Option.bind_some, hm1, if_neg (by decide), pi_197_4 hs', Option.bind_some, gi_197_4 hs', Option.bind_some, up2_self, if_pos (by decide)]
        exact r1
      · rw [r2 _ (by decide), up2_self]
      · rw [r2 x (by show x ≠ 198; omega), up2_ne _ _ _ (by omega)]
      · refine hR'.rst r2 (hm'.2.k3205 hw' (fun q hq => ?_))
        rw [r3 q hq, if_pos (by omega)]
  · have hw2 : ¬ wI a 0 2 = true := fun e => by
      obtain ⟨j, -, j2, rfl⟩ := hin.mp e
      exact h1 ((isL_iff (by decide)).mpr ⟨j, by omega, rfl⟩)
    refine pkV_ok (t := 1) (I'' := up2 I 197 4 1) (L'' := L) hl (L_restore_1 hs (S' := S) (I' := I) (L' := L) (R' := R) (n' := (n.1 + 1, n.2 + 6)) ?_) ?_ (up2_self _ _ _ _) FrC.rf (FrR.up (by decide)) hC.exc (hR.m4 1) hG.le
    · unfold F_X11_restore
      rw [x_needImage hC, if_neg h1, b3_thr2]; rfl
    · unfold F_X12_restore F_X12_restore_31
      rw [e2, b2i_ne hw2, b2_some, if_pos rfl, pi_197_4 hs, Option.bind_some, gi_197_4 hs, Option.bind_some, up2_self, if_neg (by decide)]
