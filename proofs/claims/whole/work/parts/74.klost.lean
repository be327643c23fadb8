/-! counts; lost, weddings, count -/
def aTwosL (f : Nat → Int32) : Nat → Nat → Nat → Nat
  | 0, _, y => y
  | r + 1, l, y => aTwosL f r (l + 1) (if f (3 + l) ≤ nI l then y else y + 1)
def aCnt (C : Nat) (f : Nat → Int32) (s : Int32) : List Nat := evL (fun c => decide (f (15 + 7 * c) = s)) C 0
section TW
variable {S : mkS} {I : mkI} {L : mkL} {R : mkR} {n : Nat × Nat} {b ca co p : Nat} {P : PL}
theorem c_twosL (hP : PlOK P) (hb : BdS S R b ca co) (hpl : R b 2 = some p) (hp : CPlan P S R I p) : ∀ (r g l y : Nat), l + r = pW P → r < g → F_X0_twosMarried_4 g (some b) (nI y) (nI l) (mk S I L R n) = some (nI (aTwosL (I ca) r l y), mk S I L R n) := by
  have w2 := hP.2.1
  intro r
  induction r with
  | zero =>
    intro g l y hl hg
    obtain ⟨g, rfl⟩ : ∃ z, g = z + 1 := ⟨g - 1, by omega⟩
    simp only [F_X0_twosMarried_4]
    rw [bd_p hb hpl, Option.bind_some, pl_0 hp, Option.bind_some, if_pos (nI_le (by omega) (by omega))]
    rfl
  | succ r ih =>
    intro g l y hl hg
    obtain ⟨g, rfl⟩ : ∃ z, g = z + 1 := ⟨g - 1, by omega⟩
    simp only [F_X0_twosMarried_4, F_X0_twosMarried_27]
    rw [bd_p hb hpl, Option.bind_some, pl_0 hp, Option.bind_some, if_neg (nI_ge (by omega) (by omega)), bd_v hb, c_spouse hP hb hpl hp (show l < 20 by omega), b2_some, if_pos (show l < pW P by omega), nI_1, nI_1, ih g (l + 1) y (by omega) (by omega), ih g (l + 1) (y + 1) (by omega) (by omega)]
    simp only [aTwosL]
    by_cases q : I ca (3 + l) ≤ nI l
    · rw [if_pos q, if_pos q]
    · rw [if_neg q, if_neg q]
theorem c_twos (hP : PlOK P) (hb : BdS S R b ca co) (hpl : R b 2 = some p) (hp : CPlan P S R I p) : F_X0_twosMarried (some b) (mk S I L R n) = some (nI (aTwosL (I ca) (pW P) 0 0), mk S I L R n) :=
  c_twosL hP hb hpl hp (pW P) mm_N 0 0 (by omega) (by have := hP.2.1; show pW P < 1000000; omega)
theorem e_twosL (hs : St S R) {C W : Nat} {f : Nat → Int32} (hW : W ≤ 8) (hK : I 198 1 = nI W) (hB : RBoard C f (I 198)) : ∀ (r g l y : Nat), l + r = W → r < g → F_X12_twosWed_4 g (some 197) (nI y) (nI l) (mk S I L R n) = some (nI (aTwosL f r l y), mk S I L R n) := by
  intro r
  induction r with
  | zero =>
    intro g l y hl hg
    obtain ⟨g, rfl⟩ : ∃ z, g = z + 1 := ⟨g - 1, by omega⟩
    simp only [F_X12_twosWed_4]
    rw [gr_197_0 hs, Option.bind_some, ail_198 hs (show 1 < 3205 by decide), Option.bind_some, hK, if_pos (nI_le (by omega) (by omega))]
    rfl
  | succ r ih =>
    intro g l y hl hg
    obtain ⟨g, rfl⟩ : ∃ z, g = z + 1 := ⟨g - 1, by omega⟩
    simp only [F_X12_twosWed_4, F_X12_twosWed_33]
    rw [gr_197_0 hs, Option.bind_some, ail_198 hs (show 1 < 3205 by decide), Option.bind_some, hK, if_neg (nI_ge (by omega) (by omega)), Option.bind_some, li_add 38, ai_198 hs (show 38 + l < 3205 by omega), Option.bind_some, hB.2.2.2.2.2.1 l (by omega), show nI y + 0 = nI y from nI_add y 0, nI_1, nI_1, ih g (l + 1) y (by omega) (by omega), ih g (l + 1) (y + 1) (by omega) (by omega)]
    simp only [aTwosL]
    by_cases q : f (3 + l) ≤ nI l
    · rw [if_pos q, if_pos q]
    · rw [if_neg q, if_neg q]
theorem e_twos (hs : St S R) {C W : Nat} {f : Nat → Int32} (hW : W ≤ 8) (hK : I 198 1 = nI W) (hB : RBoard C f (I 198)) : F_X12_twosWed (some 197) (mk S I L R n) = some (nI (aTwosL f W 0 0), mk S I L R n) :=
  e_twosL hs hW hK hB W mm_N 0 0 (by omega) (by show W < 1000000; omega)
theorem c_bitsL (hb : BdS S R b ca co) {C : Nat} (hC : C ≤ 10) (h1 : I ca 1 = nI C) (s : Int32) : ∀ (r g c v : Nat), c + r = C → r < g → F_X0_bitsOf_4 g (some b) s (nI v) (nI c) (mk S I L R n) = some (nI (bitsN (evL (fun c => decide (I ca (15 + 7 * c) = s)) r c) v), mk S I L R n) := by
  intro r
  induction r with
  | zero =>
    intro g c v hc hg
    obtain ⟨g, rfl⟩ : ∃ z, g = z + 1 := ⟨g - 1, by omega⟩
    simp only [F_X0_bitsOf_4]
    rw [bd_v hb, c_calls hb, b2_some, h1, if_pos (nI_le (by omega) (by omega))]
    rfl
  | succ r ih =>
    intro g c v hc hg
    obtain ⟨g, rfl⟩ : ∃ z, g = z + 1 := ⟨g - 1, by omega⟩
    have hcC : c < C := by omega
    have f4 : F_X0_fact (some b) (nI c) (4 : Int32) (mk S I L R n) = some (I ca (15 + 7 * c), mk S I L R n) := by
      have := c_fact (n := n) (L := L) (w := 4) hb hC h1 hcC (by decide)
      rw [show 11 + 7 * c + 4 = 15 + 7 * c by omega] at this; exact this
    simp only [F_X0_bitsOf_4, F_X0_bitsOf_28]
    rw [bd_v hb, c_calls hb, b2_some, h1, if_neg (nI_ge (by omega) (by omega)), bd_v hb, f4, b2_some, sh1 (show c < 31 by omega), nI_or, nI_1, ih g (c + 1) v (by omega) (by omega), ih g (c + 1) (v ||| 2 ^ c) (by omega) (by omega)]
    simp only [evL]
    by_cases q : I ca (15 + 7 * c) = s
    · rw [if_pos q, if_pos (by simpa using q)]; rfl
    · rw [if_neg q, if_neg (by simpa using q)]
theorem c_bitsOf (hb : BdS S R b ca co) {C : Nat} (hC : C ≤ 10) (h1 : I ca 1 = nI C) (s : Int32) : F_X0_bitsOf (some b) s (mk S I L R n) = some (nI (bitsN (aCnt C (I ca) s) 0), mk S I L R n) :=
  c_bitsL hb hC h1 s C mm_N 0 0 (by omega) (by show C < 1000000; omega)
theorem aCnt_ok {C : Nat} (hC : C ≤ 10) (f : Nat → Int32) (s : Int32) : bitsN (aCnt C f s) 0 < 1024 ∧ pcn (bitsN (aCnt C f s) 0) = (aCnt C f s).length :=
  bitsN_len (fun c hc => by have := (evL_mem C 0 c).mp hc; omega) (List.Pairwise.imp (fun h q => by rw [q] at h; exact Nat.lt_irrefl _ h) (evL_sorted C 0))
theorem c_tally (hb : BdS S R b ca co) {C : Nat} (hC : C ≤ 10) (h1 : I ca 1 = nI C) (s : Int32) : F_X0_tally (some b) s (mk S I L R n) = some (nI (aCnt C (I ca) s).length, mk S I L R n) := by
  obtain ⟨q1, q2⟩ := aCnt_ok hC (I ca) s
  unfold F_X0_tally
  rw [bd_v hb, c_bitsOf hb hC h1, b2_some, c_bitCount q1, q2, b2_some]
theorem e_cntL (hs : St S R) {C : Nat} {f : Nat → Int32} (hB : RBoard C f (I 198)) (s : Int32) : ∀ (r g c y : Nat), c + r = C → r < g → F_X12_callsThat_4 g (some 197) s (nI y) (nI c) (mk S I L R n) = some (nI (y + (evL (fun c => decide (f (15 + 7 * c) = s)) r c).length), mk S I L R n) := by
  obtain ⟨b1, b2, b3, b4, b5, b6, b7⟩ := hB
  intro r
  induction r with
  | zero =>
    intro g c y hc hg
    obtain ⟨g, rfl⟩ : ∃ z, g = z + 1 := ⟨g - 1, by omega⟩
    simp only [F_X12_callsThat_4]
    rw [cv_197 hs, e_calls hs, b2_some, b4, b2, if_pos (nI_le (by omega) (by omega))]
    rfl
  | succ r ih =>
    intro g c y hc hg
    obtain ⟨g, rfl⟩ : ∃ z, g = z + 1 := ⟨g - 1, by omega⟩
    simp only [F_X12_callsThat_4, F_X12_callsThat_31]
    rw [cv_197 hs, e_calls hs, b2_some, b4, b2, if_neg (nI_ge (by omega) (by omega)), gr_197_0 hs, Option.bind_some, li_add 8, ai_198 hs (show 8 + c < 3205 by omega), Option.bind_some, (b7 c (by omega)).2.2.2.2.1, show nI y + 0 = nI y from nI_add y 0, nI_1, nI_1, ih g (c + 1) y (by omega) (by omega), ih g (c + 1) (y + 1) (by omega) (by omega)]
    simp only [evL]
    by_cases q : f (15 + 7 * c) = s
    · rw [if_pos q, if_pos (by simpa using q), List.length_cons, Nat.add_assoc, Nat.add_comm 1]
    · rw [if_neg q, if_neg (by simpa using q)]
theorem e_cnt (hs : St S R) {C : Nat} {f : Nat → Int32} (hB : RBoard C f (I 198)) (s : Int32) : F_X12_callsThat (some 197) s (mk S I L R n) = some (nI (aCnt C f s).length, mk S I L R n) := by
  have hC := hB.1
  have := e_cntL (L := L) (n := n) hs hB s C mm_N 0 0 (by omega) (by show C < 1000000; omega)
  rw [Nat.zero_add] at this
  exact this
theorem e_isSoon (a : Int32) (h : MH) : F_X12_isSoon a h = some (b2i (wI a 1 999), h) := by
  unfold F_X12_isSoon
  rw [e_within]
  have : inL a.toInt64 1 999 = wI a 1 999 := inL_wI a 1 999
  rw [this, b2_some, rZ_b]
end TW
theorem x_minutes {tb : Nat → Nat} {tn : Nat} {fk fp : Int32} {w : WD} {tr : TR} {im : IM} {k : Nat} {S : mkS} {I : mkI} {L : mkL} {R : mkR} {n : Nat × Nat} (h : InvC tb tn fk fp w tr im (k + 1) S I L R n) (a : Int32) : F_X11_needMinutes a (mk S I L R n) = if wI a 1 999 = true then some (.inr (), mk S I L R n) else thr "java/lang/IllegalArgumentException" S I L R n := by
  unfold F_X11_needMinutes
  rw [x_within h, b3_if, b3_thr2, b3_some]
section LF
variable {S : mkS} {L : mkL} {R : mkR} {n : Nat × Nat} {P : PL}
theorem e_lostL (hs : St S R) (hP : PlOK P) {C : Nat} {f : Nat → Int32} {F T A D : Nat → Nat} {M : Nat} (hB : BI P C f F T A D M) {I I1 I0 : mkI} (h1 : ∀ a, a ≠ 206 → I1 a = I a) (h2 : ∀ j, j < 41 → I1 206 j = I 198 (7 + j)) (h3 : keepM I1 I0) (hKP : RPlan P (I0 198)) (hf : frcOK P (I0 205)) {N : Nat} (hN : M + N ≤ 300000) : ∀ (r g k : Nat) (J : mkI), k + r = N → r < g → MinS P C f A M k I0 J → ∃ I3, F_X12_lostFromHere_4 g (some 197) (nI N) (nI (bitsN (gLost P (I0 205) C (evU f A C M k) f) 0)) (nI k) (mk S J L R n) = some (nI (bitsN (gLost P (I0 205) C (evU f A C M N) f) 0), mk S I3 L R n) ∧ scQ I I3 ∧ ∀ j, j ≠ 22 → I3 197 j = I 197 j := by
  have hC := hB.1.1
  intro r
  induction r with
  | zero =>
    intro g k J hk hg h
    obtain ⟨g, rfl⟩ : ∃ z, g = z + 1 := ⟨g - 1, by omega⟩
    have : k = N := by omega
    subst this
    obtain ⟨I3, q1, q2, q3, -⟩ := e_aback (L := L) (n := n) hs h1 h2 (h3.tr h.1)
    refine ⟨I3, ?_, q2, q3⟩
    simp only [F_X12_lostFromHere_4]
    rw [if_pos (nI_le (by omega) (by omega)), cv_197 hs, q1, Option.bind_some]
  | succ r ih =>
    intro g k J hk hg h
    obtain ⟨g, rfl⟩ : ∃ z, g = z + 1 := ⟨g - 1, by omega⟩
    obtain ⟨J1, q1, q2, q3⟩ := e_minK (L := L) (n := n) hs hP hB hKP hf (by omega) h
    obtain ⟨I3, r1, r2⟩ := ih g (k + 1) J1 (by omega) (by omega) q2
    refine ⟨I3, ?_, r2⟩
    simp only [F_X12_lostFromHere_4]
    rw [if_neg (nI_ge (by omega) (by omega)), cv_197 hs, q1, Option.bind_some, gi_197_22 hs, Option.bind_some, q3, nI_or, nI_1, ← bitsN_or, ← bitsN_app, ← gLost_app, ← evU_tail]
    exact r1
theorem e_lostFrom (hs : St S R) (hP : PlOK P) {C : Nat} {f : Nat → Int32} {F T A D : Nat → Nat} {M : Nat} (hB : BI P C f F T A D M) {I I1 I0 : mkI} (h1 : ∀ a, a ≠ 206 → I1 a = I a) (h2 : ∀ j, j < 41 → I1 206 j = I 198 (7 + j)) (h3 : keepM I1 I0) (hKP : RPlan P (I0 198)) (hR : RBoard C f (I0 198)) (hf : ∀ j, j < 10 → I0 205 j = -1) {N : Nat} (hN : M + N ≤ 300000) : ∃ I3, F_X12_lostFromHere (some 197) (nI N) (mk S I0 L R n) = some (nI (bitsN (gLost P frc0 C (evU f A C M N) f) 0), mk S I3 L R n) ∧ scQ I I3 ∧ ∀ j, j ≠ 22 → I3 197 j = I 197 j := by
  obtain ⟨I3, q1, q2⟩ := e_lostL (L := L) (n := n) hs hP hB h1 h2 h3 hKP (frc_ok0 hf) hN N mm_N 0 I0 (by omega) (by show N < 1000000; omega) (MinS.zero hB (by omega) hR)
  rw [(run_0 (P := P) (n := N) (m := M) (f := f) (A := A) hf hB.1.1 f).2] at q1
  exact ⟨I3, q1, q2⟩
/-- all but what is thrown and the bits -/
def scF (I I' : mkI) : Prop := scQ I I' ∧ ∀ j, j ≠ 22 → j ≠ 4 → I' 197 j = I 197 j
theorem e_lostNow (hs : St S R) (hP : PlOK P) {C : Nat} {f : Nat → Int32} {F T A D : Nat → Nat} {M : Nat} (hB : BI P C f F T A D M) {I : mkI} (hKP : RPlan P (I 198)) (hR : RBoard C f (I 198)) (hf : ∀ j, j < 10 → I 205 j = -1) {N : Nat} (hN : M + N ≤ 300000) : ∃ I3, F_X12_lostNow (some 197) (nI N) (mk S I L R n) = some (nI (bitsN (gLost P frc0 C (evU f A C M N) f) 0), mk S I3 L R n) ∧ scQ I I3 ∧ ∀ j, j ≠ 22 → I3 197 j = I 197 j := by
  obtain ⟨I1, a1, a2, a3⟩ := e_aside (L := L) (n := n) hs I
  obtain ⟨I3, q1, q2, q3⟩ := e_lostFrom (L := L) (n := n) hs hP hB a2 a3 keepM.rf (by rw [a2 _ (by decide)]; exact hKP) (by rw [a2 _ (by decide)]; exact hR) (by rw [a2 _ (by decide)]; exact hf) hN
  refine ⟨I3, ?_, q2, q3⟩
  unfold F_X12_lostNow
  rw [cv_197 hs, a1, Option.bind_some, cv_197 hs, q1, b2_some]
end LF
/-- what a query has at hand behind the class's part -/
theorem q_ref {tb : Nat → Nat} {tn : Nat} {fk fp : Int32} {w : WD} {tr : TR} {im : IM} {k : Nat} {S : mkS} {I I' : mkI} {L : mkL} {R : mkR} {n : Nat × Nat} (hC : InvC tb tn fk fp w tr im k S I L R n) (hR : InvR tb tn fk fp w tr im I L) (kI : ∀ x, ¬ scr x → S (x - 2) ≠ (14, 0) → I' x = I x) {g1 : Nat → Int32} (hg : ∀ j, j < 81 → g1 j = I 174 j) : ∀ x : Int32, (up2 I' 197 4 x) 198 = I 198 ∧ RPlan w.1 ((up2 I' 197 4 x) 198) ∧ RBoard w.2.1.1 g1 ((up2 I' 197 4 x) 198) ∧ (∀ j, j < 10 → (up2 I' 197 4 x) 205 j = -1) := by
  intro x
  have eK : ∀ a, 197 ≤ a → a ≤ 220 → I' a = I a := fun a q1 q2 => kI a (by unfold scr; omega) (hC.1.1.nst hC.1.2.1 (by omega) q2)
  have e1 : (up2 I' 197 4 x) 198 = I 198 := by rw [up2_ne _ _ _ (by decide)]; exact eK _ (by decide) (by decide)
  refine ⟨e1, by rw [e1]; exact hR.2.2.1.1, ?_, fun j hj => by rw [up2_ne _ _ _ (by decide), eK _ (by decide) (by decide)]; exact hR.2.2.2.2.2 j hj⟩
  rw [e1]
  exact hR.2.2.1.2.1.congr (fun j hj => by rw [hg j hj, x_cells hC hj])
theorem fails_q {S : mkS} {L : mkL} {R : mkR} {n : Nat × Nat} (hs : St S R) (I : mkI) : F_X12_fails (some 197) 1 (mk S (up2 I 197 4 0) L R n) = some (0, mk S (up2 I 197 4 1) L R n) := by
  unfold F_X12_fails
  rw [pi_197_4 hs, Option.bind_some]
  refine congrArg (fun q => some (0, mk S q L R n)) (funext fun b => funext fun j => ?_)
  simp only [up2]; split <;> rfl
theorem k_lost (Ls : Nat) (xs : Nat → Int32) (a : Int32) : Good Ls xs (F_L_lost (some 128) a (some 220)) (F_X12_lost (some 197) a) := by
  intro k S I L R n ⟨hl, tb, tn, fk, fp, w, tr, im, hC, hR, hG⟩
  obtain ⟨hs, hb, ⟨p, hpl, hp⟩, ⟨c1, c2⟩, hP, hRP, hRB⟩ := inv_all hC hR hG
  obtain ⟨-, g3, g4, F, T, A, D, M, hB, hM, hgo⟩ := hG.opn
  have hB' := hB.congr (fun j hj => x_cells hC hj)
  by_cases h1 : wI a 1 999 = true
  · obtain ⟨j, hj1, hj2, rfl⟩ := (wI_iff (lo := 1) (hi := 999) (by decide) (by decide)).mp h1
    obtain ⟨p, g1, I', R', e1, e2, e3, e4, e5, e6, e7, e8, kI⟩ := x_foresee hC hP hB' (q := j) (by omega)
    have hx : F_X11_lost (some 128) (nI j) (mk S I L R n) = some (.inr (nI (gLost w.1 frc0 w.2.1.1 (evU g1 A w.2.1.1 M j) g1).length), mk S I' L R' n) := by
      unfold F_X11_lost
      rw [x_minutes hC, if_pos h1, b3_some, cv_128 hs, e3, b2_some]
    obtain ⟨v, hv⟩ : ∃ v, v = nI (gLost w.1 frc0 w.2.1.1 (evU g1 A w.2.1.1 M j) g1).length := ⟨_, rfl⟩
    rw [← hv] at hx
    obtain ⟨-, r2, r3, r4⟩ := q_ref hC hR kI e2 0
    obtain ⟨I3, m1, m2, m3⟩ := e_lostNow (L := up2 L 220 0 v.toInt64) (n := n) e5 hP (hB'.congr e2) r2 r3 r4 (N := j) (by omega)
    obtain ⟨z1, z2⟩ := bitsN_len (gLost_evU (P := w.1) (frc := frc0) (f := g1) (g := g1) (A := A) (m := M) (n := j) c1).1 (gLost_evU (P := w.1) (frc := frc0) (f := g1) (g := g1) (A := A) (m := M) (n := j) c1).2
    have sc : scQ I' I3 := scQ.m4.tr m2
    refine pk_val hl hC hR hG (L_lost_0 hs e5 hx) kI (fun x q => by rw [e1, up2_ne _ _ _ q]) (by rw [e1, up2_row, up1_ne _ _ (by decide), up1_ne _ _ (by decide)]; exact ⟨rfl, rfl⟩) (I'' := I3) ?_ (by rw [m3 4 (by decide), up2_self]) sc.fr sc.inv
    unfold F_X12_lost F_X12_lost_28
    rw [pi_197_4 e5, Option.bind_some, e_isSoon, b2_some, h1, if_neg (by decide), cv_197 e5, m1, b2_some, e_size z1, z2, ← hv, b2_some]
  · have hx : F_X11_lost (some 128) a (mk S I L R n) = thr "java/lang/IllegalArgumentException" S I L R n := by
      unfold F_X11_lost
      rw [x_minutes hC, if_neg h1, b3_thr2]
    refine pk_thr (t := 1) (by decide) hl hC hR hG (L_lost_1 hs hx) (v := 0) ?_
    unfold F_X12_lost F_X12_lost_28
    rw [pi_197_4 hs, Option.bind_some, e_isSoon, b2_some, if_pos (by rw [b2i_0]; simpa using h1), cv_197 hs, fails_q hs, b2_some]
