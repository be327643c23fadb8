/-! deeds on boards: a call more, a door, a call over -/
def aOkL (W : Nat) (l m t : Int32) : Bool := isL W l && (isL W m && (decide (l ≠ m) && wI t 1 99))
def aRing (W C : Nat) (l m t : Int32) : Int32 := if aOkL W l m t = true then (if C < 10 then 0 else 2) else 1
def aAdd (C : Nat) (f : Nat → Int32) (fr to at_ la : Int32) : Nat → Int32 := up1 (up1 (up1 (up1 (up1 (up1 (up1 (up1 f 1 (nI (C + 1))) (11 + 7 * C) fr) (12 + 7 * C) to) (13 + 7 * C) at_) (14 + 7 * C) la) (15 + 7 * C) (if at_ < f 0 then 3 else 0)) (16 + 7 * C) (-1)) (17 + 7 * C) (-1)
theorem aAdd_old {C j : Nat} {f : Nat → Int32} {fr to at_ la : Int32} (h1 : j ≠ 1) (h2 : j < 11 + 7 * C) : aAdd C f fr to at_ la j = f j := by
  unfold aAdd
  rw [up1_ne _ _ (by omega), up1_ne _ _ (by omega), up1_ne _ _ (by omega), up1_ne _ _ (by omega), up1_ne _ _ (by omega), up1_ne _ _ (by omega), up1_ne _ _ (by omega), up1_ne _ _ (by omega)]
theorem aAdd_new {C : Nat} {f : Nat → Int32} {fr to at_ la : Int32} : aAdd C f fr to at_ la 1 = nI (C + 1) ∧ aAdd C f fr to at_ la (11 + 7 * C) = fr ∧ aAdd C f fr to at_ la (12 + 7 * C) = to ∧ aAdd C f fr to at_ la (13 + 7 * C) = at_ ∧ aAdd C f fr to at_ la (14 + 7 * C) = la ∧ aAdd C f fr to at_ la (15 + 7 * C) = (if at_ < f 0 then 3 else 0) ∧ aAdd C f fr to at_ la (16 + 7 * C) = -1 ∧ aAdd C f fr to at_ la (17 + 7 * C) = -1 := by
  unfold aAdd
  refine ⟨?_, ?_, ?_, ?_, ?_, ?_, ?_, up1_self _ _ _⟩
  · rw [up1_ne _ _ (by omega), up1_ne _ _ (by omega), up1_ne _ _ (by omega), up1_ne _ _ (by omega), up1_ne _ _ (by omega), up1_ne _ _ (by omega), up1_ne _ _ (by omega), up1_self]
  · rw [up1_ne _ _ (by omega), up1_ne _ _ (by omega), up1_ne _ _ (by omega), up1_ne _ _ (by omega), up1_ne _ _ (by omega), up1_ne _ _ (by omega), up1_self]
  · rw [up1_ne _ _ (by omega), up1_ne _ _ (by omega), up1_ne _ _ (by omega), up1_ne _ _ (by omega), up1_ne _ _ (by omega), up1_self]
  · rw [up1_ne _ _ (by omega), up1_ne _ _ (by omega), up1_ne _ _ (by omega), up1_ne _ _ (by omega), up1_self]
  · rw [up1_ne _ _ (by omega), up1_ne _ _ (by omega), up1_ne _ _ (by omega), up1_self]
  · rw [up1_ne _ _ (by omega), up1_ne _ _ (by omega), up1_self]
  · rw [up1_ne _ _ (by omega), up1_self]
theorem BI.add {P : PL} {C : Nat} {f : Nat → Int32} {F T A D : Nat → Nat} {M : Nat} (h : BI P C f F T A D M) (hC : C < 10) (hM : M ≤ 200000) {a b t z : Nat} (ha : a < pW P) (hb : b < pW P) (hab : a ≠ b) (ht : t ≤ 200000 ∧ t ≤ M + 999) (h1 : 1 ≤ z) (h2 : z ≤ 99) : BI P (C + 1) (aAdd C f (nI a) (nI b) (nI t) (nI z)) (up1 F C a) (up1 T C b) (up1 A C t) (up1 D C z) M := by
  obtain ⟨⟨v1, v2, v3⟩, q0, q1, q2, q3, q4, q5⟩ := h
  obtain ⟨n1, n2, n3, n4, n5, n6, n7, n8⟩ := aAdd_new (C := C) (f := f) (fr := nI a) (to := nI b) (at_ := nI t) (la := nI z)
  have od : ∀ j, j ≠ 1 → j < 11 + 7 * C → aAdd C f (nI a) (nI b) (nI t) (nI z) j = f j := fun j => aAdd_old
  have st : ∀ d, d < C → aAdd C f (nI a) (nI b) (nI t) (nI z) (15 + 7 * d) = f (15 + 7 * d) := fun d hd => od _ (by omega) (by omega)
  have nw : aAdd C f (nI a) (nI b) (nI t) (nI z) (15 + 7 * C) = 1 → False := fun q => by
    rw [n6] at q
    by_cases w : nI t < f 0
    · rw [if_pos w] at q; exact absurd q (by decide)
    · rw [if_neg w] at q; exact absurd q (by decide)
  have up : ∀ {x : Nat → Nat} {d v : Nat}, d < C → up1 x C v d = x d := fun hd => up1_ne _ _ (by omega)
  refine ⟨⟨by omega, n1, fun c hc => ?_⟩, by rw [od 0 (by omega) (by omega)]; exact q0, fun d hd q => ?_, fun d hd q => ?_, fun d hd q => ?_, fun c d hc hd e r1 r2 r3 r4 => ?_, fun l hl => by rw [od _ (by omega) (by omega)]; exact q5 l hl⟩
  · by_cases e : c = C
    · subst e
      rw [up1_self, up1_self, up1_self, up1_self, n2, n3, n4, n5]
      exact ⟨⟨rfl, ha⟩, ⟨rfl, hb⟩, hab, ⟨rfl, by omega⟩, rfl, h1, h2⟩
    · have hc' : c < C := by omega
      rw [up hc', up hc', up hc', up hc', od _ (by omega) (by omega), od _ (by omega) (by omega), od _ (by omega) (by omega), od _ (by omega) (by omega)]
      exact v3 c hc'
  · by_cases e : d = C
    · subst e; exact (nw q).elim
    · have hd' : d < C := by omega
      rw [st d hd'] at q
      rw [od _ (by omega) (by omega), od _ (by omega) (by omega)]
      exact q1 d hd' q
  · by_cases e : d = C
    · subst e; exact (nw q).elim
    · have hd' : d < C := by omega
      rw [st d hd'] at q
      rw [up hd', up hd']
      exact q2 d hd' q
  · by_cases e : d = C
    · subst e
      rw [n7, n8, up1_self]
      refine ⟨?_, ht.2, rfl, rfl⟩
      rw [n6, q0] at q
      by_cases w : nI t < nI M
      · rw [if_pos w] at q; exact absurd q (by decide)
      · rw [nI_ltI (by omega) (by omega)] at w; omega
    · have hd' : d < C := by omega
      rw [st d hd'] at q
      rw [up hd', od _ (by omega) (by omega), od _ (by omega) (by omega)]
      exact q3 d hd' q
  · by_cases ec : c = C
    · subst ec; exact (nw r1).elim
    · by_cases ed : d = C
      · subst ed; exact (nw r2).elim
      · have hc' : c < C := by omega
        have hd' : d < C := by omega
        rw [st c hc'] at r1
        rw [st d hd'] at r2
        rw [up hc', up hc'] at r3
        rw [up hd', up hd'] at r4
        rw [od (11 + 7 * c) (by omega) (by omega), od (16 + 7 * c) (by omega) (by omega), od (17 + 7 * c) (by omega) (by omega), od (11 + 7 * d) (by omega) (by omega), od (16 + 7 * d) (by omega) (by omega), od (17 + 7 * d) (by omega) (by omega)]
        exact q4 c d hc' hd' e r1 r2 r3 r4
theorem BI.over {P : PL} {C : Nat} {f : Nat → Int32} {F T A D : Nat → Nat} {M : Nat} (h : BI P C f F T A D M) (c : Nat) : BI P C (up1 f (15 + 7 * c) 2) F T A D M := by
  obtain ⟨⟨v1, v2, v3⟩, q0, q1, q2, q3, q4, q5⟩ := h
  have st : ∀ d x, (x = 0 ∨ x = 1) → up1 f (15 + 7 * c) 2 (15 + 7 * d) = x → f (15 + 7 * d) = x := fun d x hx q => by
    by_cases e : d = c
    · subst e; rw [up1_self] at q; subst q; exact absurd hx (by decide)
    · rwa [up1_ne _ _ (by omega)] at q
  have od : ∀ j, j ≠ 15 + 7 * c → up1 f (15 + 7 * c) 2 j = f j := fun j hj => up1_ne _ _ hj
  refine ⟨⟨v1, by rw [od _ (by omega)]; exact v2, fun d hd => by rw [od _ (by omega), od _ (by omega), od _ (by omega), od _ (by omega)]; exact v3 d hd⟩, by rw [od _ (by omega)]; exact q0, fun d hd q => by rw [od _ (by omega), od _ (by omega)]; exact q1 d hd (st d 1 (.inr rfl) q), fun d hd q => q2 d hd (st d 1 (.inr rfl) q), fun d hd q => by rw [od _ (by omega), od _ (by omega)]; exact q3 d hd (st d 0 (.inl rfl) q), fun x y hx hy e r1 r2 r3 r4 => ?_, fun l hl => by rw [od _ (by omega)]; exact q5 l hl⟩
  rw [od _ (by omega), od _ (by omega), od _ (by omega), od _ (by omega), od _ (by omega), od _ (by omega)]
  exact q4 x y hx hy e (st x 1 (.inr rfl) r1) (st y 1 (.inr rfl) r2) r3 r4
theorem BI.door {P : PL} {C : Nat} {f : Nat → Int32} {F T A D : Nat → Nat} {M : Nat} (h : BI P C f F T A D M) (x : Int32) : BI P C (up1 f 2 x) F T A D M := by
  obtain ⟨⟨v1, v2, v3⟩, q0, q1, q2, q3, q4, q5⟩ := h
  have od : ∀ j, j ≠ 2 → up1 f 2 x j = f j := fun j hj => up1_ne _ _ hj
  refine ⟨⟨v1, by rw [od _ (by omega)]; exact v2, fun d hd => by rw [od _ (by omega), od _ (by omega), od _ (by omega), od _ (by omega)]; exact v3 d hd⟩, by rw [od _ (by omega)]; exact q0, fun d hd q => ?_, fun d hd q => ?_, fun d hd q => ?_, fun c d hx hy e r1 r2 r3 r4 => ?_, fun l hl => by rw [od _ (by omega)]; exact q5 l hl⟩
  · rw [od _ (by omega)] at q
    rw [od _ (by omega), od _ (by omega)]; exact q1 d hd q
  · rw [od _ (by omega)] at q
    exact q2 d hd q
  · rw [od _ (by omega)] at q
    rw [od _ (by omega), od _ (by omega)]; exact q3 d hd q
  · rw [od _ (by omega)] at r1 r2
    rw [od (11 + 7 * c) (by omega), od (16 + 7 * c) (by omega), od (17 + 7 * c) (by omega), od (11 + 7 * d) (by omega), od (16 + 7 * d) (by omega), od (17 + 7 * d) (by omega)]
    exact q4 c d hx hy e r1 r2 r3 r4
/-! what is kept goes on to be right -/
theorem BOK.le {P : PL} {Mx My : Nat} {u : BB} (h : BOK P Mx u) (hM : Mx ≤ My) : BOK P My u := by
  obtain ⟨F, T, A, D, M, h1, h2⟩ := h
  exact ⟨F, T, A, D, M, h1, by omega⟩
theorem Sub.rf {u : BB} : Sub u u := ⟨Nat.le_refl _, fun _ _ _ _ => rfl⟩
theorem Sub.tr {u v z : BB} (h : Sub u v) (h2 : Sub v z) : Sub u z := ⟨by have := h.1; have := h2.1; omega, fun c j hc hj => (h.2 c j hc hj).trans (h2.2 c j (by have := h.1; omega) hj)⟩
theorem WOK.le {Mx My : Nat} {w : WD} (h : WOK Mx w) (hM : Mx ≤ My) : WOK My w := ⟨h.1, h.2.1, fun u hu => (h.2.2.1 u hu).le hM, h.2.2.2⟩
theorem WOK.push {Mx My : Nat} {w : WD} (h : WOK Mx w) (hM : Mx ≤ My) {u : BB} (hu : BOK w.1 My u) (hs : Sub w.2.1 u) : WOK My (w.1, u, keepU w.2.1 w.2.2) := by
  obtain ⟨h1, h2, h3, h4⟩ := h
  have mem : ∀ v, v ∈ keepU w.2.1 w.2.2 → v ∈ w.2.1 :: w.2.2 := fun v hv => List.mem_of_mem_take hv
  refine ⟨h1, by show (keepU w.2.1 w.2.2).length ≤ 10; rw [keepU_len h2]; omega, fun v hv => ?_, ?_⟩
  · rcases List.mem_cons.mp hv with rfl | hv
    · exact hu
    · exact (h3 v (mem v hv)).le hM
  · refine List.pairwise_cons.mpr ⟨fun v hv => ?_, List.Pairwise.sublist (List.take_sublist _ _) h4⟩
    rcases List.mem_cons.mp (mem v hv) with rfl | hv
    · exact hs
    · exact ((List.pairwise_cons.mp h4).1 v hv).tr hs
theorem RPlan.keep3 {P : PL} {K K' : Nat → Int32} (h : RPlan P K) (hP : PlOK P) (hk : ∀ k, k < 6 ∨ (48 ≤ k ∧ k < 51) ∨ 501 ≤ k → K' k = K k) : RPlan P K' := by
  obtain ⟨p0, p1, p2, p3, ⟨p4, p5⟩, ⟨p6, p7⟩, p8, p9⟩ := h
  have w3 := hP.2.2.1
  exact ⟨by rw [hk _ (by omega)]; exact p0, by rw [hk _ (by omega)]; exact p1, by rw [hk _ (by omega)]; exact p2, fun k q => by rw [hk _ (by omega)]; exact p3 k q, ⟨by rw [hk _ (by omega)]; exact p4, fun j q => by rw [hk _ (by omega)]; exact p5 j q⟩, ⟨by rw [hk _ (by omega)]; exact p6, fun j q => by rw [hk _ (by omega)]; exact p7 j q⟩, by rw [hk _ (by omega)]; exact p8, fun j q => by rw [hk _ (by omega)]; exact p9 j q⟩
/-- another board in the reference's rows -/
theorem RW.brd {w : WD} {K K' : Nat → Int32} (h : RW w K) (hP : PlOK w.1) {u : BB} (hB : RBoard u.1 u.2 K') (hU : ∀ v ∈ w.2.2, v.1 ≤ 10) (hL : w.2.2.length ≤ 10) (hk : ∀ k, k < 7 ∨ (48 ≤ k ∧ k < 51) ∨ 91 ≤ k → K' k = K k) : RW (w.1, u, w.2.2) K' := by
  obtain ⟨h1, h2, h3, h4⟩ := h
  refine ⟨h1.keep3 hP (fun k q => hk k (by omega)), hB, by show K' 6 = _; rw [hk 6 (by omega)]; exact h3, fun i hi => ?_⟩
  have hi' : i < w.2.2.length := hi
  refine (h4 i hi').mv ?_ (fun j _ => hk _ (by omega))
  rw [revD hi', List.getD_eq_getElem?_getD, List.getElem?_eq_getElem (by omega)]
  exact hU _ (List.getElem_mem _)
theorem InvR.brd {tb : Nat → Nat} {tn : Nat} {fk fp : Int32} {w w' : WD} {tr : TR} {im : IM} {I I' : mkI} {L : mkL} (h : InvR tb tn fk fp w tr im I L) (hI : ∀ a, a ≠ 197 → a ≠ 198 → a ≠ 199 → a ≠ 203 → a ≠ 204 → ¬ (206 ≤ a ∧ a ≤ 216) → I' a = I a) (hm : ∀ j, (j = 6 ∨ j = 14 ∨ j = 15) → I' 197 j = I 197 j) (hw : RW w' (I' 198)) : InvR tb tn fk fp w' tr im I' L := by
  obtain ⟨h1, h2, h3, h4, h5, h6⟩ := h
  unfold InvR RTr RIm at *
  rw [hI 202 (by decide) (by decide) (by decide) (by decide) (by decide) (by decide), hI 205 (by decide) (by decide) (by decide) (by decide) (by decide) (by decide), hI 217 (by decide) (by decide) (by decide) (by decide) (by decide) (by decide), hI 218 (by decide) (by decide) (by decide) (by decide) (by decide) (by decide), hI 201 (by decide) (by decide) (by decide) (by decide) (by decide) (by decide), hI 200 (by decide) (by decide) (by decide) (by decide) (by decide) (by decide), hm 6 (by decide), hm 14 (by decide), hm 15 (by decide)]
  exact ⟨h1, h2, hw, h4, h5, h6⟩
theorem InvC.brd {tb : Nat → Nat} {tn : Nat} {fk fp : Int32} {w w' : WD} {tr : TR} {im : IM} {k : Nat} {S : mkS} {I I' : mkI} {L : mkL} {R : mkR} {n : Nat × Nat} (h : InvC tb tn fk fp w tr im k S I L R n) (hI : ∀ x, ¬ scr x → x ≠ 174 → x ≠ 130 → x ≠ 131 → S (x - 2) ≠ (14, 0) → I' x = I x) (hw : CW w' S R I' 170 174 175 130 131) : InvC tb tn fk fp w' tr im k S I' L R n := by
  obtain ⟨⟨s1, s2, s3, s4, s5, s6⟩, ⟨t1, t2, t3⟩, ⟨u1, u2⟩, v1, v2, v3, v4⟩ := h
  have hI' : ∀ x, 128 ≤ x → x ≤ 220 → ¬ scr x ∧ x ≠ 174 ∧ x ≠ 130 ∧ x ≠ 131 → I' x = I x := fun x q1 q2 q3 => hI x q3.1 q3.2.1 q3.2.2.1 q3.2.2.2 (s1.nst s2 q1 q2)
  have pp : ∀ x, pa x → S (x - 2) ≠ (14, 0) → I' x = I x := fun x q q2 => hI x (by unfold pa at q; unfold scr; omega) (by unfold pa at q; show x ≠ 174; omega) (by unfold pa at q; show x ≠ 130; omega) (by unfold pa at q; show x ≠ 131; omega) q2
  have n_ : ∀ x, (x = 128 ∨ x = 129 ∨ x = 157 ∨ x = 159 ∨ x = 160 ∨ (189 ≤ x ∧ x ≤ 196)) → ¬ scr x ∧ x ≠ 174 ∧ x ≠ 130 ∧ x ≠ 131 := fun x q => by unfold scr; show _ ∧ x ≠ 174 ∧ x ≠ 130 ∧ x ≠ 131; omega
  refine ⟨⟨s1, s2, s3, s4, s5, s6⟩, ⟨t1, by rw [hI' 128 (by decide) (by decide) (n_ _ (by decide))]; exact t2, by rw [hI' 129 (by decide) (by decide) (n_ _ (by decide))]; exact t3⟩, by rw [hI' 128 (by decide) (by decide) (n_ _ (by decide))]; exact ⟨u1, u2⟩, hw, fun t ht => ?_, ⟨v3.1, fun i hi => ?_⟩, ?_⟩
  · have := v2 t ht
    rw [hI' _ (by omega) (by omega) (n_ _ (by omega))]
    exact this
  · have := v3.2 i hi
    revert this
    cases im i with
    | none => exact id
    | some w =>
      rintro ⟨a, a1, a2, a3, a4⟩
      refine ⟨a, a1, a2, a3, a4.keep s2 (fun x q q2 => ?_)⟩
      have hx : 171 ≤ x ∧ x < 174 ∨ 221 ≤ x := by
        rcases q with q | q | q | q
        · omega
        · omega
        · omega
        · exact q
      exact pp x hx q2
  · rcases v4 with v4 | ⟨p, P, p1, p2, p3, p4⟩
    · exact .inl v4
    · refine .inr ⟨p, P, p1, p2, p3.keep s2 pp, ?_⟩
      unfold PRes at *
      rw [hI' 157 (by decide) (by decide) (n_ _ (by decide)), hI' 159 (by decide) (by decide) (n_ _ (by decide)), hI' 160 (by decide) (by decide) (n_ _ (by decide))]
      exact p4
theorem FrC.brd {Ls : Nat} {xs : Nat → Int32} {S : mkS} {I I' : mkI} {L : mkL} {R : mkR} (hl : Low Ls xs S I R) (hs : St S R) (hw : LW S) (hI : ∀ x, ¬ scr x → x ≠ 174 → x ≠ 130 → x ≠ 131 → S (x - 2) ≠ (14, 0) → I' x = I x) : FrC S S I I' L L R R := by
  refine ⟨fun a q => ⟨rfl, hI a (by unfold scr; omega) (by show a ≠ 174; omega) (by show a ≠ 130; omega) (by show a ≠ 131; omega) ?_, rfl⟩, fun _ _ => rfl⟩
  rcases q with q | q
  · exact hl.2.2.2 _ (by omega)
  · exact hs.nst hw (by omega) (by omega)
