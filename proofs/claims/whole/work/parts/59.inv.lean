/-! pairs, as both sides go through them -/
abbrev PA : Type := Nat × (Nat → Int32) × Bool × Int32 × (Nat → Int32)
def aCon (P : PL) (w : Nat → Int32) (l : Nat) : Int32 := if w l < 0 then 0 else aLikes P (nI l) (w l)
def aPartC (P : PL) (w : Nat → Int32) (l m : Nat) : Bool := decide (w l ≠ nI m) && (decide (aCon P w l < aLikes P (nI l) (nI m)) && decide (aCon P w m < aLikes P (nI m) (nI l)))
def aPartM (P : PL) (w : Nat → Int32) (l : Nat) : Nat → Nat → Int32
  | 0, _ => -1
  | r + 1, m => if aPartC P w l m = true then nI (10 * l + m) else aPartM P w l r (m + 1)
def aPartL (P : PL) (w : Nat → Int32) : Nat → Nat → Int32
  | 0, _ => -1
  | r + 1, l => if aPartM P w l r (l + 1) = -1 then aPartL P w r (l + 1) else aPartM P w l r (l + 1)
def aPart (P : PL) (w : Nat → Int32) : Int32 := aPartL P w (pW P) 0
def aSumL (P : PL) (w : Nat → Int32) : Nat → Nat → Int32 → Int32
  | 0, _, x => x
  | r + 1, l, x => aSumL P w r (l + 1) (x + aCon P w l)
def aCutW (P : PL) (w : Nat → Int32) : Nat → Int32 := fun l => if l < pW P then w l else -1
def aWeigh (P : PL) (w : Nat → Int32) (a : PA) : PA :=
  (if aPart P w = -1 then a.1 + 1 else a.1, if aPart P w = -1 ∧ a.1 = 0 then aCutW P w else a.2.1, if a.2.2.1 = false ∨ a.2.2.2.1 < aSumL P w (pW P) 0 0 then (true, aSumL P w (pW P) 0 0, aCutW P w) else a.2.2)
def aPF (P : PL) : Nat → Nat → (Nat → Int32) → Bool → PA → PA
  | 0, _, w, _, a => aWeigh P w a
  | r + 1, l, w, b, a => if w l = -2 then
      (if pW P % 2 = 1 ∧ b = false then aPF P r (l + 1) (up1 w l (-1)) true ((List.range' (l + 1) r).foldl (fun a m => if w m = -2 then aPF P r (l + 1) (up1 (up1 w l (nI m)) m (nI l)) b a else a) a)
       else (List.range' (l + 1) r).foldl (fun a m => if w m = -2 then aPF P r (l + 1) (up1 (up1 w l (nI m)) m (nI l)) b a else a) a)
      else aPF P r (l + 1) w b a
def aSurvey (P : PL) : PA := aPF P (pW P) 0 (fun _ => -2) false (0, fun _ => -1, false, 0, fun _ => -1)
/-! what both sides hold -/
abbrev BB : Type := Nat × (Nat → Int32)
abbrev WD : Type := PL × BB × List BB
abbrev TR : Type := Nat → Option (Nat × Nat × (Nat → Int64))
abbrev IM : Type := Nat → Option WD
def bb0 : BB := (0, fun _ => 0)
def BI (P : PL) (C : Nat) (f : Nat → Int32) (F T A D : Nat → Nat) (M : Nat) : Prop := BV P C f F T A D ∧ f 0 = nI M ∧ OnOK P C f ∧ (∀ d, d < C → f (15 + 7 * d) = 1 → M ≤ A d + D d ∧ A d < M) ∧ (∀ d, d < C → f (15 + 7 * d) = 0 → M ≤ A d ∧ A d ≤ M + 999 ∧ f (16 + 7 * d) = -1 ∧ f (17 + 7 * d) = -1) ∧ Dj C f A D M ∧ ∀ l, l < 8 → f (3 + l) = -1 ∨ ∃ s, s < pW P ∧ f (3 + l) = nI s
def BOK (P : PL) (Mx : Nat) (u : BB) : Prop := ∃ F T A D M, BI P u.1 u.2 F T A D M ∧ M ≤ Mx
def Sub (v u : BB) : Prop := v.1 ≤ u.1 ∧ ∀ c j, c < v.1 → j < 4 → v.2 (11 + 7 * c + j) = u.2 (11 + 7 * c + j)
def WOK (Mx : Nat) (w : WD) : Prop := PlOK w.1 ∧ w.2.2.length ≤ 10 ∧ (∀ u, u ∈ w.2.1 :: w.2.2 → BOK w.1 Mx u) ∧ (w.2.1 :: w.2.2).Pairwise (fun u v => Sub v u)
def GOK (k : Nat) (w : WD) (im : IM) : Prop := ∃ Mx, Mx + 99 * k ≤ 60000 ∧ WOK Mx w ∧ ∀ i w', im i = some w' → WOK Mx w'
/-- 41 ints of the reference's, from a place on: a board -/
def RSt (u : BB) (K : Nat → Int32) (z : Nat) : Prop := K z = nI u.1 ∧ (∀ c, c < u.1 → K (z + 1 + c) = u.2 (15 + 7 * c) ∧ K (z + 11 + c) = u.2 (16 + 7 * c) ∧ K (z + 21 + c) = u.2 (17 + 7 * c)) ∧ (∀ l, l < 8 → K (z + 31 + l) = u.2 (3 + l)) ∧ K (z + 39) = u.2 2 ∧ K (z + 40) = u.2 0
def RW (w : WD) (K : Nat → Int32) : Prop := RPlan w.1 K ∧ RBoard w.2.1.1 w.2.1.2 K ∧ K 6 = nI w.2.2.length ∧ ∀ i, i < w.2.2.length → RSt (w.2.2.reverse.getD i bb0) K (91 + 41 * i)
def DdS (S : mkS) (R : mkR) (dd rw : Nat) : Prop := S dd = (12, 0) ∧ 128 ≤ dd ∧ R dd 0 = some rw ∧ S rw = (1, 810) ∧ 128 ≤ rw
def DdR (U : List BB) (I : mkI) (dd rw : Nat) : Prop := ∃ nx, nx < 10 ∧ I dd 1 = nI nx ∧ I dd 2 = nI U.length ∧ ∀ i, i < U.length → ∀ j, j < 81 → I rw (81 * ((nx + 9 - i) % 10) + j) = (U.getD i bb0).2 j
def CW (w : WD) (S : mkS) (R : mkR) (I : mkI) (b ca co dd rw : Nat) : Prop := BdS S R b ca co ∧ (∃ p, R b 2 = some p ∧ CPlan w.1 S R I p) ∧ (∀ j, j < 81 → I ca j = w.2.1.2 j) ∧ DdS S R dd rw ∧ DdR w.2.2 I dd rw
def PRes (P : PL) (I : mkI) : Prop := I 157 4 = 0 ∧ I 157 5 = nI (aSurvey P).1 ∧ I 157 7 = (aSurvey P).2.2.2.1 ∧ ∀ l, l < 8 → I 159 l = (aSurvey P).2.1 l ∧ I 160 l = (aSurvey P).2.2.2.2 l
/-- the class's trays -/
def CTr (tr : TR) (I : mkI) (L : mkL) : Prop := ∀ t, t < 4 → match tr t with
  | none => I (189 + 2 * t) 2 = -1
  | some (so, ma, nu) => so < 4 ∧ ma ≤ 30 ∧ I (189 + 2 * t) 1 = nI so ∧ I (189 + 2 * t) 2 = nI ma ∧ ∀ j, j < ma → L (190 + 2 * t) j = nu j
def RTr (tr : TR) (I : mkI) (L : mkL) : Prop := ∀ t, t < 4 → match tr t with
  | none => I 217 t = -1
  | some (so, ma, nu) => so < 4 ∧ ma ≤ 30 ∧ I 217 t = nI so ∧ I 218 t = nI ma ∧ ∀ j, j < ma → L 219 (30 * t + j) = nu j
/-- the class's images: board, cells, course (6 rows' worth), deeds, rows lie one behind another -/
def CIm (im : IM) (S : mkS) (R : mkR) (I : mkI) : Prop := (∀ i j a, i < 3 → j < 3 → R 132 i = some a → R 132 j = some a → i = j) ∧ ∀ i, i < 3 → match im i with
  | none => R 132 i = none
  | some w => ∃ a, R 132 i = some a ∧ R 133 i = some (a + 8) ∧ 221 ≤ a ∧ CW w S R I a (a + 1) (a + 2) (a + 8) (a + 9)
def RIm (im : IM) (I : mkI) : Prop := ∀ i, i < 3 → match im i with
  | none => I 201 i = 0
  | some w => I 201 i = 1 ∧ RW w (fun k => I 200 (3205 * i + k))
def CPa (S : mkS) (R : mkR) (I : mkI) : Prop := R 157 3 = none ∨ ∃ p P, R 157 3 = some p ∧ PlOK P ∧ CPlan P S R I p ∧ PRes P I
def InvC (tb : Nat → Nat) (tn : Nat) (fk fp : Int32) (w : WD) (tr : TR) (im : IM) (k : Nat) (S : mkS) (I : mkI) (L : mkL) (R : mkR) (n : Nat × Nat) : Prop :=
  (St S R ∧ LW S ∧ (∀ a, n.1 ≤ a → S a = (0, 0)) ∧ 221 ≤ n.1 ∧ n.1 + 40 * k ≤ mm_capC ∧ n.2 + 8000 * k ≤ mm_capS) ∧ (tn ≤ 900 ∧ I 128 1 = nI tn ∧ ∀ j, j < tn → tb j < 256 ∧ I 129 j = (nI (tb j)).toInt8.toInt32) ∧ (I 128 3 = fk ∧ I 128 4 = fp) ∧ CW w S R I 170 174 175 130 131 ∧ CTr tr I L ∧ CIm im S R I ∧ CPa S R I
def InvR (tb : Nat → Nat) (tn : Nat) (fk fp : Int32) (w : WD) (tr : TR) (im : IM) (I : mkI) (L : mkL) : Prop :=
  (tn ≤ 900 ∧ I 197 6 = nI tn ∧ ∀ j, j < tn → I 202 j = nI (tb j)) ∧ (I 197 14 = fk ∧ I 197 15 = fp) ∧ RW w (I 198) ∧ RTr tr I L ∧ RIm im I ∧ ∀ j, j < 10 → I 205 j = -1
/-! frames -/
theorem CW.keep {w : WD} {S : mkS} {R : mkR} {I I' : mkI} {b ca co dd rw : Nat} (hw : LW S) (h : CW w S R I b ca co dd rw) (hk : ∀ x, (x = ca ∨ x = dd ∨ x = rw ∨ pa x) → S (x - 2) ≠ (14, 0) → I' x = I x) : CW w S R I' b ca co dd rw := by
  obtain ⟨h1, ⟨p, h2, h3⟩, h4, h5, nx, h6, h7, h8, h9⟩ := h
  have ec := hk ca (.inl rfl) (hw.nst (by have := h1.2.2.2.2.2; omega) (by rw [h1.2.2.2.1]; decide))
  have ed := hk dd (.inr (.inl rfl)) (hw.nst (by have := h5.2.1; omega) (by rw [h5.1]; decide))
  have er := hk rw (.inr (.inr (.inl rfl))) (hw.nst (by have := h5.2.2.2.2; omega) (by rw [h5.2.2.2.1]; decide))
  exact ⟨h1, ⟨p, h2, h3.keep hw (fun x q1 q2 => hk x (.inr (.inr (.inr q1))) q2)⟩, fun j hj => by rw [ec]; exact h4 j hj, h5, nx, h6, by rw [ed]; exact h7, by rw [ed]; exact h8, fun i hi j hj => by rw [er]; exact h9 i hi j hj⟩
theorem InvR.fr {tb : Nat → Nat} {tn : Nat} {fk fp : Int32} {w : WD} {tr : TR} {im : IM} {I I' : mkI} {L L' : mkL} (h : InvR tb tn fk fp w tr im I L) (hI : ∀ a, 197 ≤ a → a < 220 → I' a = I a) (hL : ∀ a, 197 ≤ a → a < 220 → L' a = L a) : InvR tb tn fk fp w tr im I' L' := by
  unfold InvR RTr RIm at *
  rw [hI 197 (by decide) (by decide), hI 202 (by decide) (by decide), hI 198 (by decide) (by decide), hI 205 (by decide) (by decide), hI 217 (by decide) (by decide), hI 218 (by decide) (by decide), hI 201 (by decide) (by decide), hI 200 (by decide) (by decide), hL 219 (by decide) (by decide)]
  exact h
/-- what the class's part speaks of: all but the reference's rows and Laws' stacks -/
theorem InvC.fr {tb : Nat → Nat} {tn : Nat} {fk fp : Int32} {w : WD} {tr : TR} {im : IM} {k : Nat} {S : mkS} {I I' : mkI} {L L' : mkL} {R : mkR} {n : Nat × Nat} (h : InvC tb tn fk fp w tr im k S I L R n) (hI : ∀ a, a < 197 ∨ 221 ≤ a → I' a = I a) (hL : ∀ a, a < 197 ∨ 221 ≤ a → L' a = L a) : InvC tb tn fk fp w tr im k S I' L' R n := by
  obtain ⟨⟨s1, s2, s3, s4, s5, s6⟩, ⟨t1, t2, t3⟩, ⟨u1, u2⟩, v1, v2, v3, v4⟩ := h
  have pp : ∀ x, pa x → I' x = I x := fun x q => hI x (by unfold pa at q; omega)
  refine ⟨⟨s1, s2, s3, s4, s5, s6⟩, ⟨t1, by rw [hI _ (by decide)]; exact t2, by rw [hI _ (by decide)]; exact t3⟩, by rw [hI _ (by decide)]; exact ⟨u1, u2⟩, v1.keep s2 (fun x q _ => ?_), fun t ht => ?_, ⟨v3.1, fun i hi => ?_⟩, ?_⟩
  · rcases q with q | q | q | q
    · exact hI x (by omega)
    · exact hI x (by omega)
    · exact hI x (by omega)
    · exact pp x q
  · have := v2 t ht
    rw [hI _ (by omega), hL _ (by omega)]
    exact this
  · have := v3.2 i hi
    revert this
    cases im i with
    | none => exact id
    | some w =>
      rintro ⟨a, a1, a2, a3, a4⟩
      exact ⟨a, a1, a2, a3, a4.keep s2 (fun x q _ => hI x (by
        rcases q with q | q | q | q
        · omega
        · omega
        · omega
        · unfold pa at q; omega))⟩
  · rcases v4 with v4 | ⟨p, P, p1, p2, p3, p4⟩
    · exact .inl v4
    · refine .inr ⟨p, P, p1, p2, p3.keep s2 (fun x q _ => pp x q), ?_⟩
      unfold PRes at *
      rw [hI 157 (by decide), hI 159 (by decide), hI 160 (by decide)]
      exact p4
theorem InvC.le {tb : Nat → Nat} {tn : Nat} {fk fp : Int32} {w : WD} {tr : TR} {im : IM} {k : Nat} {S : mkS} {I : mkI} {L : mkL} {R : mkR} {n : Nat × Nat} (h : InvC tb tn fk fp w tr im (k + 1) S I L R n) : InvC tb tn fk fp w tr im k S I L R n := by
  obtain ⟨⟨s1, s2, s3, s4, s5, s6⟩, h⟩ := h
  exact ⟨⟨s1, s2, s3, s4, by omega, by omega⟩, h⟩
theorem InvC.exc {tb : Nat → Nat} {tn : Nat} {fk fp : Int32} {w : WD} {tr : TR} {im : IM} {k : Nat} {S : mkS} {I : mkI} {L : mkL} {R : mkR} {n : Nat × Nat} (h : InvC tb tn fk fp w tr im (k + 1) S I L R n) : InvC tb tn fk fp w tr im k S I L R (n.1 + 1, n.2 + 6) := by
  obtain ⟨⟨s1, s2, s3, s4, s5, s6⟩, h⟩ := h
  exact ⟨⟨s1, s2, fun a (ha : n.1 + 1 ≤ a) => s3 a (by omega), by show 221 ≤ n.1 + 1; omega, by show n.1 + 1 + 40 * k ≤ mm_capC; omega, by show n.2 + 6 + 8000 * k ≤ mm_capS; omega⟩, h⟩
theorem InvC.thr {tb : Nat → Nat} {tn : Nat} {fk fp : Int32} {w : WD} {tr : TR} {im : IM} {k : Nat} {S : mkS} {I : mkI} {L : mkL} {R : mkR} {n : Nat × Nat} (h : InvC tb tn fk fp w tr im (k + 1) S I L R n) : tH (mk S I L R n) = some (mk S I L R (n.1 + 1, n.2 + 6)) := by
  obtain ⟨⟨s1, s2, s3, s4, s5, s6⟩, h⟩ := h
  exact mk_tH (by omega) (by omega)
theorem GOK.le {k : Nat} {w : WD} {im : IM} (h : GOK (k + 1) w im) : GOK k w im := by
  obtain ⟨Mx, h1, h2⟩ := h
  exact ⟨Mx, by omega, h2⟩
/-! boards that are the same row -/
theorem BV.congr {P : PL} {C : Nat} {f f' : Nat → Int32} {F T A D : Nat → Nat} (h : BV P C f F T A D) (hf : ∀ j, j < 81 → f' j = f j) : BV P C f' F T A D := by
  obtain ⟨h1, h2, h3⟩ := h
  refine ⟨h1, by rw [hf 1 (by omega)]; exact h2, fun c hc => ?_⟩
  rw [hf _ (by omega), hf _ (by omega), hf _ (by omega), hf _ (by omega)]
  exact h3 c hc
theorem BI.congr {P : PL} {C : Nat} {f f' : Nat → Int32} {F T A D : Nat → Nat} {M : Nat} (h : BI P C f F T A D M) (hf : ∀ j, j < 81 → f' j = f j) : BI P C f' F T A D M := by
  obtain ⟨h1, h2, h3, h4, h5, h6, h7⟩ := h
  have hC := h1.1
  refine ⟨h1.congr hf, by rw [hf 0 (by omega)]; exact h2, fun d hd q => ?_, fun d hd q => ?_, fun d hd q => ?_, fun c d hc hd e q1 q2 => ?_, fun l hl => ?_⟩
  · rw [hf _ (by omega)] at q
    rw [hf _ (by omega), hf _ (by omega)]
    exact h3 d hd q
  · rw [hf _ (by omega)] at q
    exact h4 d hd q
  · rw [hf _ (by omega)] at q
    rw [hf _ (by omega), hf _ (by omega)]
    exact h5 d hd q
  · rw [hf _ (by omega)] at q1 q2
    rw [hf (11 + 7 * c) (by omega), hf (16 + 7 * c) (by omega), hf (17 + 7 * c) (by omega), hf (11 + 7 * d) (by omega), hf (16 + 7 * d) (by omega), hf (17 + 7 * d) (by omega)]
    exact h6 c d hc hd e q1 q2
  · rw [hf _ (by omega)]
    exact h7 l hl
theorem RBoard.congr {C : Nat} {f f' K : Nat → Int32} (h : RBoard C f K) (hf : ∀ j, j < 81 → f' j = f j) : RBoard C f' K := by
  obtain ⟨b1, b2, b3, b4, b5, b6, b7⟩ := h
  refine ⟨b1, by rw [hf _ (by omega)]; exact b2, by rw [hf _ (by omega)]; exact b3, by rw [hf _ (by omega)]; exact b4, by rw [hf _ (by omega)]; exact b5, fun l hl => by rw [hf _ (by omega)]; exact b6 l hl, fun c hc => ?_⟩
  rw [hf _ (by omega), hf _ (by omega), hf _ (by omega), hf _ (by omega), hf _ (by omega), hf _ (by omega), hf _ (by omega)]
  exact b7 c hc
