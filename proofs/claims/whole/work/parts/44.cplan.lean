/-! the class's plan -/
/-- where plans and what they hold lie -/
def pa (a : Nat) : Prop := (171 ≤ a ∧ a < 174) ∨ 221 ≤ a
/-- behind a Law lie its code and its stack -/
def LW (S : mkS) : Prop := ∀ a, S a = (14, 0) → (S (a + 1)).1 = 1 ∧ S (a + 2) = (1, 32)
/-- a law as the class has it: none, or a Law with that code -/
def CLaw (S : mkS) (R : mkR) (I : mkI) (r : Option Nat) (ops : List Nat) : Prop := (ops = [] ∧ r = none) ∨ (ops ≠ [] ∧ ∃ a, r = some a ∧ 221 ≤ a ∧ LawS S R a (a + 1) (a + 2) ops.length ∧ ∀ j, j < ops.length → I (a + 1) j = nI (ops.getD j 0))
def CPlan (P : PL) (S : mkS) (R : mkR) (I : mkI) (p : Nat) : Prop := S p = (17, 0) ∧ pa p ∧ (I p 0 = nI (pW P) ∧ I p 1 = nI (pC P) ∧ I p 2 = nI (pT P)) ∧ (∃ ra, R p 3 = some ra ∧ pa ra ∧ S ra = (1, 3) ∧ ∀ k, k < pC P → I ra k = pRe P k) ∧ (∃ la, R p 4 = some la ∧ pa la ∧ S la = (1, 64) ∧ ∀ i j, i < pW P → j < pW P → I la (8 * i + j) = aLikes P (nI i) (nI j)) ∧ CLaw S R I (R p 5) (pS P) ∧ CLaw S R I (R p 6) (pM P)
/-- only Laws' stacks differ -/
def keepL (S : mkS) (I I' : mkI) : Prop := ∀ x, S (x - 2) ≠ (14, 0) → I' x = I x
theorem keepL.rf {S : mkS} {I : mkI} : keepL S I I := fun _ _ => rfl
theorem keepL.tr {S : mkS} {I I' I'' : mkI} (h : keepL S I I') (h2 : keepL S I' I'') : keepL S I I'' := fun x q => (h2 x q).trans (h x q)
theorem pa_ge {a : Nat} (h : pa a) : 171 ≤ a := by unfold pa at h; omega
theorem LW.nst {S : mkS} (h : LW S) {x : Nat} (h2 : 2 ≤ x) (hx : S x ≠ (1, 32)) : S (x - 2) ≠ (14, 0) := fun q => hx (by have := (h _ q).2; rwa [show x - 2 + 2 = x by omega] at this)
theorem LW.nco {S : mkS} (h : LW S) {a : Nat} (h2 : 1 ≤ a) (hx : S a = (14, 0)) : S (a + 1 - 2) ≠ (14, 0) := fun q => by
  have := (h _ q).1
  rw [show a + 1 - 2 + 1 = a by omega, hx] at this
  cases this
theorem CLaw.keep {S : mkS} {R : mkR} {I I' : mkI} {r : Option Nat} {ops : List Nat} (hw : LW S) (h : CLaw S R I r ops) (hk : ∀ x, pa x → S (x - 2) ≠ (14, 0) → I' x = I x) : CLaw S R I' r ops := by
  rcases h with h | ⟨h1, a, h2, h3, h4, h5⟩
  · exact .inl h
  · exact .inr ⟨h1, a, h2, h3, h4, fun j hj => by rw [hk _ (by unfold pa; omega) (hw.nco (by omega) h4.1)]; exact h5 j hj⟩
theorem CPlan.keep {P : PL} {S : mkS} {R : mkR} {I I' : mkI} {p : Nat} (hw : LW S) (h : CPlan P S R I p) (hk : ∀ x, pa x → S (x - 2) ≠ (14, 0) → I' x = I x) : CPlan P S R I' p := by
  obtain ⟨s1, s2, ⟨i0, i1, i2⟩, ⟨ra, r1, r2, r3, r4⟩, ⟨la, l1, l2, l3, l4⟩, c1, c2⟩ := h
  have g2 := pa_ge s2
  have gr := pa_ge r2
  have gl := pa_ge l2
  have ep := hk p s2 (hw.nst (by omega) (by rw [s1]; decide))
  have er := hk ra r2 (hw.nst (by omega) (by rw [r3]; decide))
  have el := hk la l2 (hw.nst (by omega) (by rw [l3]; decide))
  exact ⟨s1, s2, ⟨by rw [ep]; exact i0, by rw [ep]; exact i1, by rw [ep]; exact i2⟩, ⟨ra, r1, r2, r3, fun k hk => by rw [er]; exact r4 k hk⟩, ⟨la, l1, l2, l3, fun i j hi hj => by rw [el]; exact l4 i j hi hj⟩, c1.keep hw hk, c2.keep hw hk⟩
section CP
variable {S : mkS} {I : mkI} {L : mkL} {R : mkR} {n : Nat × Nat} {p : Nat} {P : PL}
theorem c_reachOf (hP : PlOK P) (h : CPlan P S R I p) {k : Nat} (hk : k < pC P) : F_X8_reachOf (some p) (nI k) (mk S I L R n) = some (pRe P k, mk S I L R n) := by
  obtain ⟨s1, -, -, ⟨ra, r1, -, r2, r3⟩, -⟩ := h
  have w3 := hP.2.2.1
  have g : gR (mk S I L R n) (some p) 8 3 = some (some ra) := (mk_gR (by rw [s1]) rfl).trans (by rw [r1])
  have e : ¬ (3 : Int32) ≤ nI k := nI_ge (b := 3) (by omega) (by omega)
  unfold F_X8_reachOf F_X8_reachOf_19
  rw [if_neg (nI_pos (by omega)), if_neg e, g, Option.bind_some, mk_aJ0 r2 (by omega) (by decide), Option.bind_some, r3 k hk]
theorem c_liking (hP : PlOK P) (h : CPlan P S R I p) {i j : Nat} (hi : i < pW P) (hj : j < pW P) : F_X8_liking (some p) (nI i) (nI j) (mk S I L R n) = some (aLikes P (nI i) (nI j), mk S I L R n) := by
  obtain ⟨s1, -, -, -, ⟨la, r1, -, r2, r3⟩, -⟩ := h
  have w2 := hP.2.1
  have g : gR (mk S I L R n) (some p) 8 4 = some (some la) := (mk_gR (by rw [s1]) rfl).trans (by rw [r1])
  have e1 : ¬ (8 : Int32) ≤ nI i := nI_ge (b := 8) (by omega) (by omega)
  have e2 : ¬ (8 : Int32) ≤ nI j := nI_ge (b := 8) (by omega) (by omega)
  have e4 : nI i * (8 : Int32) + nI j = nI (8 * i + j) := by
    rw [show (8 : Int32) = nI 8 from rfl, nI_mul9, nI_add, Nat.mul_comm]
  unfold F_X8_liking F_X8_liking_25 F_X8_liking_45
  rw [if_neg (nI_pos (by omega)), if_neg e1, if_neg (nI_pos (by omega)), if_neg e2, if_neg (by decide), g, Option.bind_some, e4, mk_aJ0 r2 (by omega) (by decide), Option.bind_some, r3 i j hi hj]
end CP
