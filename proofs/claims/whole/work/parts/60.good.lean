/-! calls that go well -/
def Low (Ls : Nat) (xs : Nat → Int32) (S : mkS) (I : mkI) (R : mkR) : Prop := (∀ a, a < 51 → S a = (22, 0) ∧ R a 0 = some (64 + a) ∧ I a 1 = 0 ∧ S (64 + a) = (3, (mm_byt a).length) ∧ ∀ j, j < (mm_byt a).length → I (64 + a) j = (mm_byt a).getD j 0) ∧ S 121 = (8, Ls) ∧ (∀ j, j < Ls → I 121 j = xs j) ∧ ∀ a, a < 128 → S a ≠ (14, 0)
theorem Low.fr {Ls : Nat} {xs : Nat → Int32} {S S' : mkS} {I I' : mkI} {R R' : mkR} (h : Low Ls xs S I R) (hS : ∀ a, a < 128 → S' a = S a) (hI : ∀ a, a < 128 → I' a = I a) (hR : ∀ a, a < 128 → R' a = R a) : Low Ls xs S' I' R' := by
  refine ⟨fun a ha => ?_, by rw [hS _ (by omega)]; exact h.2.1, fun j hj => by rw [hI _ (by omega)]; exact h.2.2.1 j hj, fun a ha => by rw [hS _ ha]; exact h.2.2.2 a ha⟩
  rw [hS _ (by omega), hS _ (by omega), hI _ (by omega), hI _ (by omega), hR _ (by omega)]
  exact h.1 a ha
def AllInv (Ls : Nat) (xs : Nat → Int32) (k : Nat) (S : mkS) (I : mkI) (L : mkL) (R : mkR) (n : Nat × Nat) : Prop := Low Ls xs S I R ∧ ∃ tb tn fk fp w tr im, InvC tb tn fk fp w tr im k S I L R n ∧ InvR tb tn fk fp w tr im I L ∧ GOK k w im
/-- both sides hold, and what lies low is the same in between -/
def AllK (Ls : Nat) (xs : Nat → Int32) (k : Nat) (S : mkS) (I' I : mkI) (L : mkL) (R : mkR) (n : Nat × Nat) : Prop := AllInv Ls xs k S I L R n ∧ Low Ls xs S I' R
/-- a call that may throw, into out -/
def Good (Ls : Nat) (xs : Nat → Int32) (c : MH → Option (Int32 × MH)) (m : MH → Option (Int32 × MH)) : Prop := ∀ k S I L R n, AllInv Ls xs (k + 1) S I L R n → ∃ t v S' I' L' R' n' I'' L'', c (mk S I L R n) = some (t, mk S' I' L' R' n') ∧ (t = 0 → L' 220 0 = Int32.toInt64 v) ∧ m (mk S' I' L' R' n') = some (v, mk S' I'' L'' R' n') ∧ I'' 197 4 = t ∧ L'' 220 0 = L' 220 0 ∧ AllK Ls xs k S' I' I'' L'' R' n'
def GoodL (Ls : Nat) (xs : Nat → Int32) (c : MH → Option (Int32 × MH)) (m : MH → Option (Int64 × MH)) : Prop := ∀ k S I L R n, AllInv Ls xs (k + 1) S I L R n → ∃ t v S' I' L' R' n' I'' L'', c (mk S I L R n) = some (t, mk S' I' L' R' n') ∧ (t = 0 → L' 220 0 = v) ∧ m (mk S' I' L' R' n') = some (v, mk S' I'' L'' R' n') ∧ I'' 197 4 = t ∧ L'' 220 0 = L' 220 0 ∧ AllK Ls xs k S' I' I'' L'' R' n'
def GoodV (Ls : Nat) (xs : Nat → Int32) (c : MH → Option (Int32 × MH)) (m : MH → Option MH) : Prop := ∀ k S I L R n, AllInv Ls xs (k + 1) S I L R n → ∃ t S' I' L' R' n' I'' L'', c (mk S I L R n) = some (t, mk S' I' L' R' n') ∧ m (mk S' I' L' R' n') = some (mk S' I'' L'' R' n') ∧ I'' 197 4 = t ∧ AllK Ls xs k S' I' I'' L'' R' n'
/-- one that never throws -/
def GoodP (Ls : Nat) (xs : Nat → Int32) (c : MH → Option (Int32 × MH)) (m : MH → Option (Int32 × MH)) : Prop := ∀ k S I L R n, AllInv Ls xs (k + 1) S I L R n → ∃ v S' I' L' R' n' I'' L'', c (mk S I L R n) = some (v, mk S' I' L' R' n') ∧ m (mk S' I' L' R' n') = some (v, mk S' I'' L'' R' n') ∧ AllK Ls xs k S' I' I'' L'' R' n'
/-- what the class's side may change in a call -/
def FrC (S S' : mkS) (I I' : mkI) (L L' : mkL) (R R' : mkR) : Prop := (∀ a, a < 128 ∨ (197 ≤ a ∧ a ≤ 220) → S' a = S a ∧ I' a = I a ∧ R' a = R a) ∧ ∀ a, a < 128 ∨ (197 ≤ a ∧ a < 220) → L' a = L a
/-- what the reference's side may change -/
def FrR (I I' : mkI) (L L' : mkL) : Prop := ∀ a, a < 197 ∨ 220 ≤ a → I' a = I a ∧ L' a = L a
theorem FrR.rf {I : mkI} {L : mkL} : FrR I I L L := fun _ _ => ⟨rfl, rfl⟩
theorem FrR.tr {I I' I'' : mkI} {L L' L'' : mkL} (h : FrR I I' L L') (h2 : FrR I' I'' L' L'') : FrR I I'' L L'' := fun a q => ⟨(h2 a q).1.trans (h a q).1, (h2 a q).2.trans (h a q).2⟩
theorem FrR.up {I : mkI} {L : mkL} {a k : Nat} {x : Int32} (h : 197 ≤ a ∧ a < 220) : FrR I (up2 I a k x) L L := fun b q => ⟨up2_ne _ _ _ (by omega), rfl⟩
theorem FrC.rf {S : mkS} {I : mkI} {L : mkL} {R : mkR} : FrC S S I I L L R R := ⟨fun _ _ => ⟨rfl, rfl, rfl⟩, fun _ _ => rfl⟩
theorem FrC.out {S S' : mkS} {I I' : mkI} {L L' : mkL} {R R' : mkR} (h : FrC S S' I I' L L' R R') (k : Nat) (x : Int64) : FrC S S' I I' L (up2 L' 220 k x) R R' := ⟨h.1, fun a q => by rw [up2_ne _ _ _ (by omega)]; exact h.2 a q⟩
/-- both sides done -/
theorem AllInv.of {Ls : Nat} {xs : Nat → Int32} {k : Nat} {S S' : mkS} {I I' I'' : mkI} {L L' L'' : mkL} {R R' : mkR} {n' : Nat × Nat} (h : Low Ls xs S I R) (hC : FrC S S' I I' L L' R R') (hR : FrR I' I'' L' L'') {tb : Nat → Nat} {tn : Nat} {fk fp : Int32} {w : WD} {tr : TR} {im : IM} (h1 : InvC tb tn fk fp w tr im k S' I' L' R' n') (h2 : InvR tb tn fk fp w tr im I'' L'') (h3 : GOK k w im) : AllK Ls xs k S' I' I'' L'' R' n' :=
  ⟨⟨h.fr (fun a q => (hC.1 a (.inl q)).1) (fun a q => ((hR a (.inl (by omega))).1).trans (hC.1 a (.inl q)).2.1) (fun a q => (hC.1 a (.inl q)).2.2), tb, tn, fk, fp, w, tr, im, h1.fr (fun a q => (hR a (by omega)).1) (fun a q => (hR a (by omega)).2), h2, h3⟩, h.fr (fun a q => (hC.1 a (.inl q)).1) (fun a q => (hC.1 a (.inl q)).2.1) (fun a q => (hC.1 a (.inl q)).2.2)⟩
theorem InvR.ofC {tb : Nat → Nat} {tn : Nat} {fk fp : Int32} {w : WD} {tr : TR} {im : IM} {S S' : mkS} {I I' : mkI} {L L' : mkL} {R R' : mkR} (h : InvR tb tn fk fp w tr im I L) (hC : FrC S S' I I' L L' R R') : InvR tb tn fk fp w tr im I' L' := h.fr (fun a q1 q2 => (hC.1 a (.inr ⟨q1, by omega⟩)).2.1) (fun a q1 q2 => hC.2 a (.inr ⟨q1, q2⟩))
theorem InvR.m4 {tb : Nat → Nat} {tn : Nat} {fk fp : Int32} {w : WD} {tr : TR} {im : IM} {I : mkI} {L : mkL} (h : InvR tb tn fk fp w tr im I L) (x : Int32) : InvR tb tn fk fp w tr im (up2 I 197 4 x) L := by
  unfold InvR RTr RIm at *
  have e : ∀ a, a ≠ 197 → up2 I 197 4 x a = I a := fun a q => up2_ne _ _ _ q
  have f : ∀ j, j ≠ 4 → up2 I 197 4 x 197 j = I 197 j := fun j q => by rw [up2_row, up1_ne _ _ q]
  rw [e 202 (by decide), e 198 (by decide), e 205 (by decide), e 217 (by decide), e 218 (by decide), e 201 (by decide), e 200 (by decide), f 6 (by decide), f 14 (by decide), f 15 (by decide)]
  exact h
theorem InvC.out {tb : Nat → Nat} {tn : Nat} {fk fp : Int32} {w : WD} {tr : TR} {im : IM} {k : Nat} {S : mkS} {I : mkI} {L : mkL} {R : mkR} {n : Nat × Nat} (h : InvC tb tn fk fp w tr im k S I L R n) (j : Nat) (x : Int64) : InvC tb tn fk fp w tr im k S I (up2 L 220 j x) R n := h.fr (fun _ _ => rfl) (fun a q => up2_ne _ _ _ (by omega))
section OUT
variable {S : mkS} {I : mkI} {L : mkL} {R : mkR} {n : Nat × Nat}
theorem out_s (hs : St S R) (x : Int64) : sL (mk S I L R n) (some 220) (0 : Int32) x = some (mk S I (up2 L 220 0 x) R n) := mk_sL (S_220 hs) (by decide) (by decide) (by decide)
end OUT
/-! bounds of arguments -/
def wI (a lo hi : Int32) : Bool := decide (¬ a < lo) && decide (a ≤ hi)
theorem inL_wI (a lo hi : Int32) : inL a.toInt64 lo.toInt64 hi.toInt64 = wI a lo hi := by
  unfold inL wI
  simp only [l64_le]
  congr 1
  rw [decide_eq_decide]
  rw [Int32.le_iff_toInt_le, Int32.lt_iff_toInt_lt]
  omega
theorem inL_isL {W : Nat} (hW : W ≤ 1000000) (x : Int32) : inL x.toInt64 0 (nI W - 1).toInt64 = isL W x := by
  have e : inL x.toInt64 0 (nI W - 1).toInt64 = wI x 0 (nI W - 1) := inL_wI x 0 (nI W - 1)
  rw [e]
  unfold wI isL
  congr 1
  rw [decide_eq_decide, Int32.le_iff_toInt_le, Int32.le_iff_toInt_le, nI_toInt (by omega)]
  have : (nI W - 1).toInt = (W : Int) - 1 := by
    rcases Nat.eq_zero_or_pos W with h | h
    · subst h; decide
    · rw [nI_sub1 h, nI_toInt (by omega)]; omega
  rw [this]
  omega
section XW
variable {S : mkS} {I : mkI} {L : mkL} {R : mkR} {n : Nat × Nat} {tb : Nat → Nat} {tn : Nat} {fk fp : Int32} {w : WD} {tr : TR} {im : IM} {k : Nat}
def thr {α : Type} (E : String) (S : mkS) (I : mkI) (L : mkL) (R : mkR) (n : Nat × Nat) : Option ((String ⊕ α) × MH) := some (.inl E, mk S I L R (n.1 + 1, n.2 + 6))
theorem b3_thr2 {α β : Type} (E : String) (S : mkS) (I : mkI) (L : mkL) (R : mkR) (n : Nat × Nat) (f : α → MH → Option ((String ⊕ β) × MH)) : mm_b3 (thr E S I L R n) f = thr E S I L R n := rfl
theorem b3_if {α β : Type} (b : Bool) (x y : Option ((String ⊕ α) × MH)) (f : α → MH → Option ((String ⊕ β) × MH)) : mm_b3 (if b = true then x else y) f = if b = true then mm_b3 x f else mm_b3 y f := by cases b <;> rfl
theorem x_within (h : InvC tb tn fk fp w tr im (k + 1) S I L R n) (a lo hi : Int32) : F_X11_needWithin a lo hi (mk S I L R n) = if wI a lo hi = true then some (.inr (), mk S I L R n) else thr "java/lang/IllegalArgumentException" S I L R n := by
  unfold F_X11_needWithin F_X11_needWithin_10 wI
  rw [h.thr]
  by_cases h1 : a < lo
  · simp [h1]; rfl
  · by_cases h2 : a ≤ hi <;> simp [h1, h2] <;> rfl
theorem x_bd (h : InvC tb tn fk fp w tr im k S I L R n) : gR (mk S I L R n) (some 128) 11 5 = some (some 170) := gr_128_5 h.1.1
theorem x_needLine (h : InvC tb tn fk fp w tr im (k + 1) S I L R n) (a : Int32) : F_X11_needLine (some 128) a (mk S I L R n) = if isL (pW w.1) a = true then some (.inr (), mk S I L R n) else thr "java/util/NoSuchElementException" S I L R n := by
  obtain ⟨hb, ⟨p, hpl, hp⟩, -⟩ := h.2.2.2.1
  unfold F_X11_needLine F_X11_needLine_18 isL
  rw [h.thr, x_bd h]
  simp only [Option.bind_some, bd_p hb hpl, pl_0 hp]
  by_cases h1 : a < 0
  · simp [h1]; rfl
  · by_cases h2 : nI (pW w.1) ≤ a
    · have h3 : ¬ a < nI (pW w.1) := by rw [Int32.lt_iff_toInt_lt]; rw [Int32.le_iff_toInt_le] at h2; omega
      simp [h1, h2, h3]; rfl
    · have h3 : a < nI (pW w.1) := by rw [Int32.lt_iff_toInt_lt]; rw [Int32.le_iff_toInt_le] at h2; omega
      simp [h1, h2, h3]
theorem x_cells (h : InvC tb tn fk fp w tr im k S I L R n) {j : Nat} (hj : j < 81) : I 174 j = w.2.1.2 j := h.2.2.2.1.2.2.1 j hj
theorem x_C (h : InvC tb tn fk fp w tr im k S I L R n) (g : GOK k w im) : w.2.1.1 ≤ 10 ∧ I 174 1 = nI w.2.1.1 := by
  obtain ⟨Mx, -, ⟨-, -, h3, -⟩, -⟩ := g
  obtain ⟨F, T, A, D, M, ⟨⟨b1, b2, -⟩, -⟩, -⟩ := h3 w.2.1 List.mem_cons_self
  exact ⟨b1, by rw [x_cells h (by omega)]; exact b2⟩
theorem x_needCall (h : InvC tb tn fk fp w tr im (k + 1) S I L R n) (g : GOK (k + 1) w im) (a : Int32) : F_X11_needCall (some 128) a (mk S I L R n) = if isL w.2.1.1 a = true then some (.inr (), mk S I L R n) else thr "java/util/NoSuchElementException" S I L R n := by
  obtain ⟨hb, ⟨p, hpl, hp⟩, -⟩ := h.2.2.2.1
  obtain ⟨c1, c2⟩ := x_C h g
  unfold F_X11_needCall F_X11_needCall_15 isL
  simp only [x_bd h, Option.bind_some, bd_v hb, c_calls hb, b2_some, c2, h.thr]
  by_cases h1 : a < 0
  · simp [h1]; rfl
  · by_cases h2 : nI w.2.1.1 ≤ a
    · have h3 : ¬ a < nI w.2.1.1 := by rw [Int32.lt_iff_toInt_lt]; rw [Int32.le_iff_toInt_le] at h2; omega
      simp [h1, h2, h3]; rfl
    · have h3 : a < nI w.2.1.1 := by rw [Int32.lt_iff_toInt_lt]; rw [Int32.le_iff_toInt_le] at h2; omega
      simp [h1, h2, h3]
end XW
/-! scratch -/
def scr (x : Nat) : Prop := (135 ≤ x ∧ x ≤ 156) ∨ x = 158 ∨ (161 ≤ x ∧ x ≤ 169) ∨ (175 ≤ x ∧ x ≤ 188)
theorem St.nst {S : mkS} {R : mkR} (hs : St S R) (hw : LW S) {a : Nat} (h1 : 128 ≤ a) (h2 : a ≤ 220) : S (a - 2) ≠ (14, 0) := by
  have key : ∀ a < 221, 128 ≤ a → ∃ q ∈ stS, q.1 = a ∧ q.2 ≠ (1, 32) := by decide +kernel
  obtain ⟨q, q1, q2, q3⟩ := key a (by omega) h1
  have := hs.1 q q1
  rw [q2] at this
  exact hw.nst (by omega) (by rw [this]; exact q3)
theorem CLaw.keepR {S : mkS} {R R' : mkR} {I : mkI} {r : Option Nat} {ops : List Nat} (h : CLaw S R I r ops) (hk : ∀ x, x ≠ 181 → R' x = R x) : CLaw S R' I r ops := by
  rcases h with h | ⟨h1, a, h2, h3, h4, h5⟩
  · exact .inl h
  · refine .inr ⟨h1, a, h2, h3, ?_, h5⟩
    unfold LawS at *
    rw [hk a (by omega)]
    exact h4
theorem CPlan.keepR {P : PL} {S : mkS} {R R' : mkR} {I : mkI} {p : Nat} (h : CPlan P S R I p) (hk : ∀ x, x ≠ 181 → R' x = R x) : CPlan P S R' I p := by
  obtain ⟨s1, s2, s3, s4, s5, c1, c2⟩ := h
  have e : R' p = R p := hk p (by unfold pa at s2; omega)
  unfold CPlan
  rw [e]
  exact ⟨s1, s2, s3, s4, s5, c1.keepR hk, c2.keepR hk⟩
theorem CW.keepR {w : WD} {S : mkS} {R R' : mkR} {I : mkI} {b ca co dd rw : Nat} (h : CW w S R I b ca co dd rw) (hb : b ≠ 181) (hd : dd ≠ 181) (hk : ∀ x, x ≠ 181 → R' x = R x) : CW w S R' I b ca co dd rw := by
  obtain ⟨h1, ⟨p, h2, h3⟩, h4, h5, h6⟩ := h
  refine ⟨?_, ⟨p, by rw [hk b hb]; exact h2, h3.keepR hk⟩, h4, ?_, h6⟩
  · unfold BdS at *; rw [hk b hb]; exact h1
  · unfold DdS at *; rw [hk dd hd]; exact h5
theorem InvC.kS {tb : Nat → Nat} {tn : Nat} {fk fp : Int32} {w : WD} {tr : TR} {im : IM} {k : Nat} {S : mkS} {I I' : mkI} {L : mkL} {R R' : mkR} {n : Nat × Nat} (h : InvC tb tn fk fp w tr im k S I L R n) (hI : ∀ x, ¬ scr x → S (x - 2) ≠ (14, 0) → I' x = I x) (hR : ∀ x, x ≠ 181 → R' x = R x) (hR2 : R' 181 0 = R 181 0 ∧ R' 181 1 = R 181 1) : InvC tb tn fk fp w tr im k S I' L R' n := by
  obtain ⟨⟨s1, s2, s3, s4, s5, s6⟩, ⟨t1, t2, t3⟩, ⟨u1, u2⟩, v1, v2, v3, v4⟩ := h
  have hI' : ∀ x, 128 ≤ x → x ≤ 220 → ¬ scr x → I' x = I x := fun x q1 q2 q3 => hI x q3 (s1.nst s2 q1 q2)
  have pp : ∀ x, pa x → S (x - 2) ≠ (14, 0) → I' x = I x := fun x q q2 => hI x (by unfold pa at q; unfold scr; omega) q2
  have s1' : St S R' := by
    refine ⟨s1.1, fun q hq => ?_⟩
    by_cases e : q.1 = 181
    · have key : ∀ q ∈ stR, q.1 = 181 → q.2.1 = 0 ∨ q.2.1 = 1 := by decide +kernel
      rcases key q hq e with e2 | e2
      · rw [← s1.2 q hq, e, e2]; exact hR2.1
      · rw [← s1.2 q hq, e, e2]; exact hR2.2
    · rw [hR _ e]; exact s1.2 q hq
  have n_ : ∀ x, (x = 128 ∨ x = 129 ∨ x = 170 ∨ x = 174 ∨ x = 130 ∨ x = 131 ∨ x = 157 ∨ x = 159 ∨ x = 160 ∨ (189 ≤ x ∧ x ≤ 196)) → ¬ scr x := fun x q => by unfold scr; omega
  refine ⟨⟨s1', s2, s3, s4, s5, s6⟩, ⟨t1, by rw [hI' _ (by decide) (by decide) (n_ _ (by decide))]; exact t2, by rw [hI' 129 (by decide) (by decide) (n_ _ (by decide))]; exact t3⟩, by rw [hI' 128 (by decide) (by decide) (n_ _ (by decide))]; exact ⟨u1, u2⟩, (v1.keep s2 (fun x q q2 => ?_)).keepR (by decide) (by decide) hR, fun t ht => ?_, ⟨?_, fun i hi => ?_⟩, ?_⟩
  · rcases q with q | q | q | q
    · exact hI x (by unfold scr; omega) q2
    · exact hI x (by unfold scr; omega) q2
    · exact hI x (by unfold scr; omega) q2
    · exact pp x q q2
  · have := v2 t ht
    rw [hI' _ (by omega) (by omega) (n_ _ (by omega))]
    exact this
  · rw [hR 132 (by decide)]; exact v3.1
  · have := v3.2 i hi
    revert this
    rw [hR 132 (by decide), hR 133 (by decide)]
    cases im i with
    | none => exact id
    | some w =>
      rintro ⟨a, a1, a2, a3, a4⟩
      exact ⟨a, a1, a2, a3, (a4.keep s2 (fun x q q2 => hI x (by
        rcases q with q | q | q | q
        · unfold scr; omega
        · unfold scr; omega
        · unfold scr; omega
        · unfold pa at q; unfold scr; omega) q2)).keepR (by omega) (by omega) hR⟩
  · rcases v4 with v4 | ⟨p, P, p1, p2, p3, p4⟩
    · exact .inl (by rw [hR 157 (by decide)]; exact v4)
    · refine .inr ⟨p, P, by rw [hR 157 (by decide)]; exact p1, p2, (p3.keep s2 pp).keepR hR, ?_⟩
      unfold PRes at *
      rw [hI' 157 (by decide) (by decide) (n_ _ (by decide)), hI' 159 (by decide) (by decide) (n_ _ (by decide)), hI' 160 (by decide) (by decide) (n_ _ (by decide))]
      exact p4
theorem FrC.kS {Ls : Nat} {xs : Nat → Int32} {S : mkS} {I I' : mkI} {L : mkL} {R R' : mkR} (hl : Low Ls xs S I R) (hs : St S R) (hw : LW S) (hI : ∀ x, ¬ scr x → S (x - 2) ≠ (14, 0) → I' x = I x) (hR : ∀ x, x ≠ 181 → R' x = R x) : FrC S S I I' L L R R' := by
  refine ⟨fun a q => ⟨rfl, hI a (by unfold scr; omega) ?_, hR a (by omega)⟩, fun _ _ => rfl⟩
  rcases q with q | q
  · exact hl.2.2.2 _ (by omega)
  · exact hs.nst hw (by omega) (by omega)
