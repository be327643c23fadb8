/-! crossings: the reference's search -/
theorem eX_le {Q : XQ} {m C : Nat} {good : (Nat → Nat) → Bool} : ∀ (r i : Nat) (p : Nat → Nat) (a : XA), (eX Q m C good r i p a).1 ≤ a.1 + C ^ r
  | 0, i, p, a => by
    rw [eX, Nat.pow_zero]
    unfold lfX
    split
    · exact Nat.le_refl _
    · exact Nat.le_succ _
  | r + 1, i, p, a => by
    rw [eX, Nat.pow_succ, Nat.mul_comm]
    have key : ∀ (z k : Nat) (a : XA), ((List.range' k z).foldl (fun a j => if nwX Q i p j = true then eX Q m C good r (i + 1) (up1 p i j) a else a) a).1 ≤ a.1 + z * C ^ r := by
      intro z
      induction z with
      | zero => intro k a; rw [Nat.zero_mul]; exact Nat.le_refl _
      | succ z ih =>
        intro k a
        rw [List.range'_succ, List.foldl_cons, Nat.succ_mul]
        refine Nat.le_trans (ih (k + 1) _) ?_
        have : (if nwX Q i p k = true then eX Q m C good r (i + 1) (up1 p i k) a else a).1 ≤ a.1 + C ^ r := by
          split
          · exact eX_le r (i + 1) _ a
          · exact Nat.le_add_right _ _
        omega
    exact key C 0 a
def qX (f : Nat → Int32) (F nl : Nat → Nat) : XQ := (fun i j => decide (f (15 + 7 * j) = 0) && decide (F j = nl (2 * i) ∨ F j = nl (2 * i + 1)), fun i j => if F j = nl (2 * i) then nl (2 * i + 1) else nl (2 * i))
def kX (i : Nat) (I I' : mkI) : Prop := (∀ a, a ≠ 197 → a ≠ 206 → a ≠ 203 → a ≠ 204 → a ≠ 209 → a ≠ 210 → I' a = I a) ∧ (∀ j, j ≠ 22 → j ≠ 33 → I' 197 j = I 197 j) ∧ ∀ j, j < i → I' 209 j = I 209 j
theorem kX.rf {i : Nat} {I : mkI} : kX i I I := ⟨fun _ _ _ _ _ _ _ => rfl, fun _ _ _ => rfl, fun _ _ => rfl⟩
theorem kX.tr {i : Nat} {I I' I'' : mkI} (h : kX i I I') (h2 : kX i I' I'') : kX i I I'' := ⟨fun x a b c d e g => (h2.1 x a b c d e g).trans (h.1 x a b c d e g), fun j a b => (h2.2.1 j a b).trans (h.2.1 j a b), fun j q => (h2.2.2 j q).trans (h.2.2 j q)⟩
theorem kA.x {i : Nat} {I I' : mkI} (h : kA I I') : kX i I I' := ⟨fun x a b c d _ _ => h.1 x a b c d, fun j a _ => h.2 j a, fun j _ => by rw [h.1 _ (by decide) (by decide) (by decide) (by decide)]⟩
section EX
variable {S : mkS} {L : mkL} {R : mkR} {n : Nat × Nat} {P : PL} {C M : Nat} {f : Nat → Int32} {F T A D : Nat → Nat}
def XSt (P : PL) (C : Nat) (f : Nat → Int32) (t ma : Nat) (nu : Nat → Int64) (L : mkL) (I : mkI) : Prop := RPlan P (I 198) ∧ RBoard C f (I 198) ∧ RTl t ma nu I L ∧ ∀ c, c < 10 → I 205 c = -1
/-- picks so far, and what is found so far -/
def XPs (C : Nat) (f : Nat → Int32) (Q : XQ) (i : Nat) (p : Nat → Nat) (I : mkI) : Prop := (∀ c, c < 10 → I 205 c = frX Q i p c) ∧ ∀ j, j < i → I 209 j = nI (p j) ∧ p j < C ∧ f (15 + 7 * p j) = 0
def XAs (m : Nat) (a : XA) (I : mkI) : Prop := I 197 33 = nI a.1 ∧ (a.1 ≠ 0 → ∀ j, j < m → I 210 j = nI (a.2 j))
def XBs (P : PL) (C : Nat) (f : Nat → Int32) (t ma : Nat) (nu : Nat → Int64) (L : mkL) (I : mkI) : Prop := RPlan P (I 198) ∧ RBoard C f (I 198) ∧ RTl t ma nu I L
theorem XBs.k {t ma : Nat} {nu : Nat → Int64} {i : Nat} {I I' : mkI} (h : XBs P C f t ma nu L I) (k : kX i I I') : XBs P C f t ma nu L I' := by
  obtain ⟨h1, h2, t1, t2, t3, t4, t5⟩ := h
  refine ⟨?_, ?_, t1, t2, ?_, ?_, t5⟩
  · rw [k.1 _ (by decide) (by decide) (by decide) (by decide) (by decide) (by decide)]; exact h1
  · rw [k.1 _ (by decide) (by decide) (by decide) (by decide) (by decide) (by decide)]; exact h2
  · rw [k.1 _ (by decide) (by decide) (by decide) (by decide) (by decide) (by decide)]; exact t3
  · rw [k.1 _ (by decide) (by decide) (by decide) (by decide) (by decide) (by decide)]; exact t4
theorem XBs.fo {t ma : Nat} {nu : Nat → Int64} {I : mkI} {j : Nat} {x : Int32} (h : XBs P C f t ma nu L I) : XBs P C f t ma nu L (up2 I 205 j x) := by
  obtain ⟨h1, h2, t1, t2, t3, t4, t5⟩ := h
  exact ⟨by rw [up2_ne _ _ _ (by decide)]; exact h1, by rw [up2_ne _ _ _ (by decide)]; exact h2, t1, t2, by rw [up2_ne _ _ _ (by decide)]; exact t3, by rw [up2_ne _ _ _ (by decide)]; exact t4, t5⟩
theorem XBs.r {t ma : Nat} {nu : Nat → Int64} {I : mkI} {j : Nat} {x : Int32} (h : XBs P C f t ma nu L I) : XBs P C f t ma nu L (up2 I 209 j x) := by
  obtain ⟨h1, h2, t1, t2, t3, t4, t5⟩ := h
  exact ⟨by rw [up2_ne _ _ _ (by decide)]; exact h1, by rw [up2_ne _ _ _ (by decide)]; exact h2, t1, t2, by rw [up2_ne _ _ _ (by decide)]; exact t3, by rw [up2_ne _ _ _ (by decide)]; exact t4, t5⟩
theorem e_cp33 (hs : St S R) {m : Nat} (hm : m ≤ 3) {pt : PT_X12_goesCrossed} : ∀ (r g i : Nat) (I : mkI), i + r = m → r < g → I 197 33 = 1 → ∃ I', F_X12_goesCrossed_33 pt g (some 197) (nI m) (nI i) (mk S I L R n) = some (mk S I' L R n) ∧ (∀ x, x ≠ 210 → I' x = I x) ∧ ∀ j, j < m → I' 210 j = if i ≤ j then I 209 j else I 210 j := by
  intro r
  induction r with
  | zero =>
    intro g i I hi hg h1
    obtain ⟨g, rfl⟩ : ∃ y, g = y + 1 := ⟨g - 1, by omega⟩
    refine ⟨I, ?_, fun _ _ => rfl, fun j hj => by rw [if_neg (by omega)]⟩
    simp only [F_X12_goesCrossed_33]
    rw [if_pos (nI_le (by omega) (by omega))]
    rfl
  | succ r ih =>
    intro g i I hi hg h1
    obtain ⟨g, rfl⟩ : ∃ y, g = y + 1 := ⟨g - 1, by omega⟩
    obtain ⟨I', q1, q2, q3⟩ := ih g (i + 1) (up2 I 210 i (I 209 i)) (by omega) (by omega) (by rw [up2_ne _ _ _ (by decide)]; exact h1)
    refine ⟨I', ?_, fun x hx => by rw [q2 x hx, up2_ne _ _ _ hx], fun j hj => ?_⟩
    · simp only [F_X12_goesCrossed_33]
      rw [if_neg (nI_ge (by omega) (by omega)), gi_197_33 hs, Option.bind_some, h1, if_pos rfl, gr_197_32 hs, Option.bind_some, gr_197_31 hs, Option.bind_some, ai_209 hs (by omega), Option.bind_some, si_210 hs (by omega), Option.bind_some, nI_1]
      exact q1
    · rw [q3 j hj, up2_ne _ _ _ (show (209 : Nat) ≠ 210 by decide)]
      by_cases e : j = i
      · rw [e, if_neg (by omega), up2_self, if_pos (Nat.le_refl _)]
      · rw [up2_row, up1_ne _ _ e]
        by_cases y : i + 1 ≤ j
        · rw [if_pos y, if_pos (by omega)]
        · rw [if_neg y, if_neg (by omega)]
theorem frX_ok {Q : XQ} : ∀ (i : Nat) (p : Nat → Nat), (∀ j, j < i → Q.2 j (p j) < pW P) → frcOK P (frX Q i p)
  | 0, _, _ => fun c _ => .inl rfl
  | i + 1, p, h => fun c hc => by
    rw [frX]
    by_cases e : c = p i
    · rw [e, up1_self]; exact .inr ⟨_, h i (by omega), rfl⟩
    · rw [up1_ne _ _ e]; exact frX_ok i p (fun j hj => h j (by omega)) c hc
theorem e_leafX (hs : St S R) (hP : PlOK P) (hB : BI P C f F T A D M) (hM : M ≤ 200000) {t ma m : Nat} {nu : Nat → Int64} (hma : ma = 2 * m) (hm : m ≤ 3) {Q : XQ} {p : Nat → Nat} {a : XA} {I : mkI} (hS : XBs P C f t ma nu L I) (hp : XPs C f Q m p I) (ha : XAs m a I) (ha2 : a.1 < 2000) (hf : frcOK P (frX Q m p)) {pt : PT_X12_goesCrossed} : ∃ I', F_X12_goesCrossed pt (some 197) (nI t) (nI m) (mk S I L R n) = some (mk S I' L R n) ∧ XAs m (lfX m (gdX (P, C, f, A, M) Q m) p a) I' ∧ kX m I I' := by
  obtain ⟨h1, h2, t1, t2, t3, t4, t5⟩ := hS
  obtain ⟨I3, q1, q2⟩ := e_allOn (L := L) (n := n) hs hP hB hM h1 h2 (Q := Q) (p := p) hf hp.1 hm hp.2
  unfold F_X12_goesCrossed
  rw [gr_197_46 hs, Option.bind_some, ai_218 hs t1, Option.bind_some, t4, show (2 : Int32) * nI m = nI (2 * m) from nI_mul9 2 m, hma, if_pos rfl, cv_197 hs, q1, b2_some]
  have a3 : XAs m a I3 := ⟨by rw [q2.2 _ (by decide)]; exact ha.1, fun h j hj => by rw [q2.1 _ (by decide) (by decide) (by decide) (by decide)]; exact ha.2 h j hj⟩
  unfold lfX
  cases gdX (P, C, f, A, M) Q m p with
  | false =>
    rw [if_pos (show b2i false = 0 from rfl), if_neg Bool.false_ne_true]
    exact ⟨I3, rfl, a3, q2.x⟩
  | true =>
    rw [if_neg (show ¬ b2i true = 0 by decide), if_pos rfl, gi_197_33 hs, Option.bind_some, a3.1, nI_1, pi_197_33 hs, Option.bind_some]
    have k1 : kX m I3 (up2 I3 197 33 (nI (a.1 + 1))) := ⟨fun x b _ _ _ _ _ => up2_ne _ _ _ b, fun j _ b => by rw [up2_row, up1_ne _ _ b], fun j _ => by rw [up2_ne _ _ _ (by decide)]⟩
    by_cases e : a.1 = 0
    · obtain ⟨I4, z1, z2, z3⟩ := e_cp33 (L := L) (n := n) hs hm (pt := pt) m mm_N 0 (up2 I3 197 33 (nI (a.1 + 1))) (by omega) (by show m < 1000000; omega) (by rw [up2_self, e]; rfl)
      refine ⟨I4, z1, ⟨by rw [z2 _ (by decide), up2_self], fun _ j hj => ?_⟩, (q2.x.tr k1).tr ⟨fun x _ _ _ _ _ b => z2 x b, fun j _ _ => by rw [z2 _ (by decide)], fun j _ => by rw [z2 _ (by decide)]⟩⟩
      rw [z3 j hj, if_pos (Nat.zero_le _), up2_ne _ _ _ (by decide), q2.1 _ (by decide) (by decide) (by decide) (by decide), (hp.2 j hj).1]
      show _ = nI ((if a.1 = 0 then cutX m p else a.2) j)
      rw [if_pos e]
      unfold cutX
      rw [if_pos hj]
    · refine ⟨up2 I3 197 33 (nI (a.1 + 1)), ?_, ⟨up2_self _ _ _ _, fun _ j hj => ?_⟩, q2.x.tr k1⟩
      · obtain ⟨g, eg⟩ : ∃ g, mm_N = g + 1 := ⟨mm_N - 1, by unfold mm_N; omega⟩
        rw [eg]
        simp only [F_X12_goesCrossed_33, F_X12_goesCrossed_64]
        by_cases e2 : nI m ≤ 0
        · rw [if_pos e2]
        · rw [if_neg e2, gi_197_33 hs, Option.bind_some, up2_self, if_neg (fun z => e (by have := (nI_eq (b := 1) (by omega) (by omega)).mp z; omega))]
      · rw [up2_ne _ _ _ (by decide)]
        show _ = nI ((if a.1 = 0 then cutX m p else a.2) j)
        rw [if_neg e]; exact a3.2 e j hj
theorem e_goesX (hs : St S R) (hP : PlOK P) (hB : BI P C f F T A D M) (hM : M ≤ 200000) {t ma m : Nat} {nu : Nat → Int64} (hma : ma = 2 * m) (hm : m ≤ 3) (hnu : ∀ j, j < ma → lnv nu j < pW P ∧ nu j = (nI (lnv nu j)).toInt64) : ∀ (r g i : Nat) (p : Nat → Nat) (a : XA) (I : mkI), i + r = m → r < g → XBs P C f t ma nu L I → XPs C f (qX f F (lnv nu)) i p I → XAs m a I → a.1 + C ^ r ≤ 1000 → frcOK P (frX (qX f F (lnv nu)) i p) → ∃ I', G_X12_goesCrossed g (some 197) (nI t) (nI i) (mk S I L R n) = some (mk S I' L R n) ∧ XAs m (eX (qX f F (lnv nu)) m C (gdX (P, C, f, A, M) (qX f F (lnv nu)) m) r i p a) I' ∧ kX i I I' := by
  have hC := hB.1.1
  have w2 := hP.2.1
  intro r
  induction r with
  | zero =>
    intro g i p a I hi hg hS hp ha hb hf
    obtain ⟨g, rfl⟩ : ∃ y, g = y + 1 := ⟨g - 1, by omega⟩
    have : i = m := by omega
    subst this
    exact e_leafX (L := L) (n := n) hs hP hB hM hma hm hS hp ha (by omega) hf (pt := G_X12_goesCrossed g)
  | succ r ih =>
    intro g i p a I hi hg hS hp ha hb hf
    obtain ⟨g, rfl⟩ : ∃ y, g = y + 1 := ⟨g - 1, by omega⟩
    have him : i < m := by omega
    have hpow : C ^ (r + 1) = C * C ^ r := by rw [Nat.pow_succ, Nat.mul_comm]
    obtain ⟨t1, t2, t3, t4, t5⟩ := id hS.2.2
    have et : ∀ {J : mkI} {n'} (k : Nat), XBs P C f t ma nu L J → k < ma → F_X12_told (some 197) (nI t) (nI k) (mk S J L R n') = some (nI (lnv nu k), mk S J L R n') := fun {J n'} k hJ hk => by
      rw [e_told hs (by omega), t5 k hk, (hnu k hk).2, Int32.toInt32_toInt64]
    show ∃ I', F_X12_goesCrossed (G_X12_goesCrossed g) _ _ _ _ = _ ∧ _
    unfold F_X12_goesCrossed
    rw [gr_197_46 hs, Option.bind_some, ai_218 hs t1, Option.bind_some, t4, show (2 : Int32) * nI i = nI (2 * i) from nI_mul9 2 i, if_neg (fun z => by have := (nI_eq (by omega) (by omega)).mp z; omega), eX]
    have loop : ∀ (z y j : Nat) (I2 : mkI) (b : XA), j + z = C → z < y → kX i I I2 → XAs m b I2 → b.1 + z * C ^ r ≤ 1000 → ∃ I', F_X12_goesCrossed_67 (G_X12_goesCrossed g) y (some 197) (nI t) (nI i) (nI j) (mk S I2 L R n) = some (mk S I' L R n) ∧ XAs m ((List.range' j z).foldl (fun a j => if nwX (qX f F (lnv nu)) i p j = true then eX (qX f F (lnv nu)) m C (gdX (P, C, f, A, M) (qX f F (lnv nu)) m) r (i + 1) (up1 p i j) a else a) b) I' ∧ kX i I I' := by
      intro z
      induction z with
      | zero =>
        intro y j I2 b hj hy k2 hb2 _
        obtain ⟨y, rfl⟩ : ∃ x, y = x + 1 := ⟨y - 1, by omega⟩
        have hS2 := hS.k k2
        have kn : I2 198 7 = nI C := by rw [hS2.2.1.2.2.2.1, hS2.2.1.2.1]
        refine ⟨I2, ?_, hb2, k2⟩
        simp only [F_X12_goesCrossed_67]
        rw [cv_197 hs, e_calls hs, b2_some, kn, if_pos (nI_le (by omega) (by omega))]
      | succ z ihz =>
        intro y j I2 b hj hy k2 hb2 hbd
        obtain ⟨y, rfl⟩ : ∃ x, y = x + 1 := ⟨y - 1, by omega⟩
        have hjC : j < C := by omega
        have hS2 := hS.k k2
        have kn : I2 198 7 = nI C := by rw [hS2.2.1.2.2.2.1, hS2.2.1.2.1]
        have fo2 : I2 205 = I 205 := k2.1 _ (by decide) (by decide) (by decide) (by decide) (by decide) (by decide)
        obtain ⟨b1, -, -, -, b5, -⟩ := hS2.2.1.2.2.2.2.2.2 j hjC
        obtain ⟨⟨e1, eF⟩, -⟩ := hB.1.2.2 j hjC
        have r1 : aI (mk S I2 L R n) (some 198) 0 (51 + nI j) = some (nI (F j)) := rk hs (z := 51) (by omega) (b1.trans e1)
        have r2 : aI (mk S I2 L R n) (some 198) 0 (8 + nI j) = some (f (15 + 7 * j)) := rk hs (z := 8) (by omega) b5
        have r3 : aI (mk S I2 L R n) (some 205) 0 (nI j) = some (frX (qX f F (lnv nu)) i p j) := by rw [ai_205 hs (by omega), fo2, hp.1 j (by omega)]
        have n0 := hnu (2 * i) (by omega)
        have n1 := hnu (2 * i + 1) (by omega)
        have eq0 : (nI (F j) = nI (lnv nu (2 * i))) ↔ F j = lnv nu (2 * i) := nI_eq (by omega) (by omega)
        have eq1 : (nI (F j) = nI (lnv nu (2 * i + 1))) ↔ F j = lnv nu (2 * i + 1) := nI_eq (by omega) (by omega)
        rw [Nat.succ_mul] at hbd
        have next : ∀ (b' : XA) (I3 : mkI), kX i I I3 → XAs m b' I3 → b'.1 + z * C ^ r ≤ 1000 → ∃ I', F_X12_goesCrossed_203 (G_X12_goesCrossed g) (F_X12_goesCrossed_67 (G_X12_goesCrossed g) y) (some 197) (nI t) (nI i) (nI j) (mk S I3 L R n) = some (mk S I' L R n) ∧ XAs m ((List.range' (j + 1) z).foldl (fun a j => if nwX (qX f F (lnv nu)) i p j = true then eX (qX f F (lnv nu)) m C (gdX (P, C, f, A, M) (qX f F (lnv nu)) m) r (i + 1) (up1 p i j) a else a) b') I' ∧ kX i I I' := fun b' I3 k3 hb3 hbd3 => by
          unfold F_X12_goesCrossed_203
          rw [nI_1]
          exact ihz y (j + 1) I3 b' (by omega) (by omega) k3 hb3 hbd3
        rw [List.range'_succ, List.foldl_cons]
        have skip : nwX (qX f F (lnv nu)) i p j = false → ∃ I', F_X12_goesCrossed_203 (G_X12_goesCrossed g) (F_X12_goesCrossed_67 (G_X12_goesCrossed g) y) (some 197) (nI t) (nI i) (nI j) (mk S I2 L R n) = some (mk S I' L R n) ∧ XAs m ((List.range' (j + 1) z).foldl (fun a j => if nwX (qX f F (lnv nu)) i p j = true then eX (qX f F (lnv nu)) m C (gdX (P, C, f, A, M) (qX f F (lnv nu)) m) r (i + 1) (up1 p i j) a else a) (if nwX (qX f F (lnv nu)) i p j = true then eX (qX f F (lnv nu)) m C (gdX (P, C, f, A, M) (qX f F (lnv nu)) m) r (i + 1) (up1 p i j) b else b)) I' ∧ kX i I I' := fun h => by
          rw [h, if_neg Bool.false_ne_true]
          exact next b I2 k2 hb2 (by omega)
        have take : ∀ (o : Nat) (l4 : Int32), f (15 + 7 * j) = 0 → frX (qX f F (lnv nu)) i p j = -1 → (F j = lnv nu (2 * i) ∨ F j = lnv nu (2 * i + 1)) → (qX f F (lnv nu)).2 i j = lnv nu o → o < ma → (if l4 = 0 then nI (2 * i) else nI (2 * i + 1)) = nI o → ∃ I', F_X12_goesCrossed_154 (G_X12_goesCrossed g) (F_X12_goesCrossed_67 (G_X12_goesCrossed g) y) (some 197) (nI t) (nI i) (nI j) l4 (mk S I2 L R n) = some (mk S I' L R n) ∧ XAs m ((List.range' (j + 1) z).foldl (fun a j => if nwX (qX f F (lnv nu)) i p j = true then eX (qX f F (lnv nu)) m C (gdX (P, C, f, A, M) (qX f F (lnv nu)) m) r (i + 1) (up1 p i j) a else a) (if nwX (qX f F (lnv nu)) i p j = true then eX (qX f F (lnv nu)) m C (gdX (P, C, f, A, M) (qX f F (lnv nu)) m) r (i + 1) (up1 p i j) b else b)) I' ∧ kX i I I' := fun o l4 q0 q1 q2 q3 qo q4 => by
          have hn : nwX (qX f F (lnv nu)) i p j = true := by
            show (decide (f (15 + 7 * j) = 0) && decide (F j = lnv nu (2 * i) ∨ F j = lnv nu (2 * i + 1)) && decide (frX (qX f F (lnv nu)) i p j = -1)) = true
            rw [decide_eq_true q0, decide_eq_true q2, decide_eq_true q1]; rfl
          rw [hn, if_pos rfl]
          obtain ⟨J, hJ⟩ : ∃ J, J = up2 (up2 I2 209 i (nI j)) 205 j (nI (lnv nu o)) := ⟨_, rfl⟩
          have hSJ : XBs P C f t ma nu L J := by rw [hJ]; exact hS2.r.fo
          have hSr : XBs P C f t ma nu L (up2 I2 209 i (nI j)) := hS2.r
          have fJ : J 205 = up1 (I 205) j (nI (lnv nu o)) := by rw [hJ, up2_row, up2_ne _ _ _ (by decide), fo2]
          have mJ : J 209 = up1 (I2 209) i (nI j) := by rw [hJ, up2_ne _ _ _ (by decide), up2_row]
          have eF1 : frX (qX f F (lnv nu)) (i + 1) (up1 p i j) = up1 (frX (qX f F (lnv nu)) i p) j (nI (lnv nu o)) := by
            rw [frX, up1_self, frX_congr i _ p (fun k hk => up1_ne _ _ (by omega)), q3]
          obtain ⟨I4, y1, y2, y3⟩ := ih g (i + 1) (up1 p i j) b J (by omega) (by omega) hSJ ⟨fun c hc => by
              rw [fJ, eF1]
              by_cases e : c = j
              · rw [e, up1_self, up1_self]
              · rw [up1_ne _ _ e, up1_ne _ _ e]; exact hp.1 c hc, fun k hk => by
              rw [mJ]
              by_cases e : k = i
              · rw [e, up1_self, up1_self]; exact ⟨rfl, hjC, q0⟩
              · rw [up1_ne _ _ e, up1_ne _ _ e, k2.2.2 k (by omega)]; exact hp.2 k (by omega)⟩ ⟨by rw [hJ, up2_ne _ _ _ (by decide), up2_ne _ _ _ (by decide)]; exact hb2.1, fun h k hk => by rw [hJ, up2_ne _ _ _ (by decide), up2_ne _ _ _ (by decide)]; exact hb2.2 h k hk⟩ (by omega) (fun c hc => by
              rw [eF1]
              by_cases e : c = j
              · rw [e, up1_self]; exact .inr ⟨_, (hnu o qo).1, rfl⟩
              · rw [up1_ne _ _ e]; exact hf c hc)
          have hle := eX_le (Q := qX f F (lnv nu)) (m := m) (C := C) (good := gdX (P, C, f, A, M) (qX f F (lnv nu)) m) r (i + 1) (up1 p i j) b
          have f4 : I4 205 = J 205 := y3.1 _ (by decide) (by decide) (by decide) (by decide) (by decide) (by decide)
          have k5 : kX i I (up2 I4 205 j (-1)) := by
            refine ⟨fun x d1 d2 d3 d4 d5 d6 => ?_, fun k d1 d2 => ?_, fun k hk => ?_⟩
            · by_cases e : x = 205
              · rw [e, up2_row, f4, fJ]
                funext c
                by_cases ec : c = j
                · rw [ec, up1_self, hp.1 j (by omega), q1]
                · rw [up1_ne _ _ ec, up1_ne _ _ ec]
              · rw [up2_ne _ _ _ e, y3.1 x d1 d2 d3 d4 d5 d6, hJ, up2_ne _ _ _ e, up2_ne _ _ _ d5, k2.1 x d1 d2 d3 d4 d5 d6]
            · rw [up2_ne _ _ _ (by decide), y3.2.1 k d1 d2, hJ, up2_ne _ _ _ (by decide), up2_ne _ _ _ (by decide), k2.2.1 k d1 d2]
            · rw [up2_ne _ _ _ (by decide), y3.2.2 k (by omega), mJ, up1_ne _ _ (by omega), k2.2.2 k hk]
          have a5 : XAs m (eX (qX f F (lnv nu)) m C (gdX (P, C, f, A, M) (qX f F (lnv nu)) m) r (i + 1) (up1 p i j) b) (up2 I4 205 j (-1)) := ⟨by rw [up2_ne _ _ _ (by decide)]; exact y2.1, fun h k hk => by rw [up2_ne _ _ _ (by decide)]; exact y2.2 h k hk⟩
          obtain ⟨I5, x1, x2, x3⟩ := next _ (up2 I4 205 j (-1)) k5 a5 (by omega)
          refine ⟨I5, ?_, x2, x3⟩
          have h184 : F_X12_goesCrossed_184 (G_X12_goesCrossed g) (F_X12_goesCrossed_67 (G_X12_goesCrossed g) y) (some 197) (nI t) (nI i) (nI j) (nI o) (nI t) (some 197) (nI j) (some 205) (mk S (up2 I2 209 i (nI j)) L R n) = some (mk S I5 L R n) := by
            unfold F_X12_goesCrossed_184
            rw [cv_197 hs, et o hSr qo, b2_some, si_205 hs (by omega), Option.bind_some, ← hJ, cv_197 hs, nI_1, y1, Option.bind_some, gr_197_21 hs, Option.bind_some, si_205 hs (by omega), Option.bind_some]
            exact x1
          unfold F_X12_goesCrossed_154
          rw [gr_197_31 hs, Option.bind_some, si_209 hs (by omega), Option.bind_some, gr_197_21 hs, Option.bind_some, show (2 : Int32) * nI i = nI (2 * i) from nI_mul9 2 i, nI_1]
          by_cases e4 : l4 = 0
          · rw [if_pos e4] at q4
            rw [if_pos e4, q4]; exact h184
          · rw [if_neg e4] at q4
            rw [if_neg e4, q4]; exact h184
        have hno : (f (15 + 7 * j) = 0 → (F j = lnv nu (2 * i) ∨ F j = lnv nu (2 * i + 1)) → ¬ frX (qX f F (lnv nu)) i p j = -1) → nwX (qX f F (lnv nu)) i p j = false := fun h => by
          show (decide (f (15 + 7 * j) = 0) && decide (F j = lnv nu (2 * i) ∨ F j = lnv nu (2 * i + 1)) && decide (frX (qX f F (lnv nu)) i p j = -1)) = false
          by_cases z1 : f (15 + 7 * j) = 0
          · by_cases z2 : F j = lnv nu (2 * i) ∨ F j = lnv nu (2 * i + 1)
            · rw [decide_eq_false (h z1 z2), Bool.and_false]
            · rw [decide_eq_false z2, Bool.and_false, Bool.false_and]
          · rw [decide_eq_false z1, Bool.false_and, Bool.false_and]
        have h100 : ∀ s0 : Int32, (s0 = 0 ↔ ¬ F j = lnv nu (2 * i)) → ∃ I', F_X12_goesCrossed_100 (G_X12_goesCrossed g) (F_X12_goesCrossed_67 (G_X12_goesCrossed g) y) (some 197) (nI t) (nI i) (nI j) s0 (mk S I2 L R n) = some (mk S I' L R n) ∧ XAs m ((List.range' (j + 1) z).foldl (fun a j => if nwX (qX f F (lnv nu)) i p j = true then eX (qX f F (lnv nu)) m C (gdX (P, C, f, A, M) (qX f F (lnv nu)) m) r (i + 1) (up1 p i j) a else a) (if nwX (qX f F (lnv nu)) i p j = true then eX (qX f F (lnv nu)) m C (gdX (P, C, f, A, M) (qX f F (lnv nu)) m) r (i + 1) (up1 p i j) b else b)) I' ∧ kX i I I' := fun s0 hs0 => by
          unfold F_X12_goesCrossed_100
          rw [gr_197_0 hs, Option.bind_some, r2, Option.bind_some]
          by_cases z1 : f (15 + 7 * j) = 0
          · rw [if_pos z1, gr_197_21 hs, Option.bind_some, r3, Option.bind_some]
            by_cases z2 : frX (qX f F (lnv nu)) i p j = -1
            · rw [if_pos z2]
              by_cases z3 : F j = lnv nu (2 * i)
              · rw [if_neg (fun z => hs0.mp z z3)]
                refine take (2 * i + 1) s0 z1 z2 (.inl z3) ?_ (by omega) (if_neg (fun z => hs0.mp z z3))
                show (if F j = lnv nu (2 * i) then lnv nu (2 * i + 1) else lnv nu (2 * i)) = _
                rw [if_pos z3]
              · have es : s0 = 0 := hs0.mpr z3
                rw [if_pos es, Option.bind_some, r1, Option.bind_some, cv_197 hs, show (2 : Int32) * nI i = nI (2 * i) from nI_mul9 2 i, nI_1, et (2 * i + 1) hS2 (by omega), b2_some]
                by_cases z4 : F j = lnv nu (2 * i + 1)
                · rw [if_pos (eq1.mpr z4)]
                  refine take (2 * i) s0 z1 z2 (.inr z4) ?_ (by omega) (if_pos es)
                  show (if F j = lnv nu (2 * i) then lnv nu (2 * i + 1) else lnv nu (2 * i)) = _
                  rw [if_neg z3]
                · rw [if_neg (fun q => z4 (eq1.mp q))]
                  exact skip (hno (fun _ q => q.elim (fun q => absurd q z3) (fun q => absurd q z4)))
            · rw [if_neg z2]
              exact skip (hno (fun _ _ => z2))
          · rw [if_neg z1]
            exact skip (hno (fun q => absurd q z1))
        simp only [F_X12_goesCrossed_67]
        rw [cv_197 hs, e_calls hs, b2_some, kn, if_neg (nI_ge (by omega) (by omega)), gr_197_0 hs, Option.bind_some, r1, Option.bind_some, cv_197 hs, show (2 : Int32) * nI i = nI (2 * i) from nI_mul9 2 i, et (2 * i) hS2 (by omega), b2_some]
        by_cases z3 : F j = lnv nu (2 * i)
        · rw [if_pos (eq0.mpr z3)]
          exact h100 1 ⟨fun q => absurd q (by decide), fun q => absurd z3 q⟩
        · rw [if_neg (fun q => z3 (eq0.mp q))]
          exact h100 0 ⟨fun _ => z3, fun _ => rfl⟩
    rw [hpow] at hb
    exact loop C mm_N 0 I a (by omega) (by show C < 1000000; omega) kX.rf ha hb
end EX
