/-! a whole board becomes another one -/
section KK
variable {S : mkS} {I I' : mkI} {R R' : mkR}
def fineA (S : mkS) (x : Nat) : Prop := S x = (17, 0) ∨ S x = (1, 3) ∨ S x = (1, 64) ∨ (S (x - 1) = (14, 0) ∧ ∃ len, S x = (1, len))
theorem CLaw.kk {r : Option Nat} {ops : List Nat} (h : CLaw S R I r ops) (hI : ∀ x, pa x → fineA S x → I' x = I x) (hR : ∀ x, S x = (17, 0) ∨ S x = (14, 0) → R' x = R x) : CLaw S R' I' r ops := by
  rcases h with h | ⟨h1, a, h2, h3, h4, h5⟩
  · exact .inl h
  · refine .inr ⟨h1, a, h2, h3, ?_, ?_⟩
    · unfold LawS at *
      rw [hR a (.inr h4.1)]
      exact h4
    · rw [hI (a + 1) (by unfold pa; omega) (.inr (.inr (.inr ⟨by rw [Nat.add_sub_cancel]; exact h4.1, _, h4.2.2.2.1⟩)))]
      exact h5
theorem CPlan.kk {P : PL} {p : Nat} (h : CPlan P S R I p) (hI : ∀ x, pa x → fineA S x → I' x = I x) (hR : ∀ x, S x = (17, 0) ∨ S x = (14, 0) → R' x = R x) : CPlan P S R' I' p := by
  obtain ⟨s1, s2, s3, ⟨ra, r1, r2, r3, r4⟩, ⟨la, l1, l2, l3, l4⟩, c1, c2⟩ := h
  have e : R' p = R p := hR p (.inl s1)
  unfold CPlan
  rw [e, hI p s2 (.inl s1)]
  refine ⟨s1, s2, s3, ⟨ra, r1, r2, r3, ?_⟩, ⟨la, l1, l2, l3, ?_⟩, c1.kk hI hR, c2.kk hI hR⟩
  · rw [hI ra r2 (.inr (.inl r3))]; exact r4
  · rw [hI la l2 (.inr (.inr (.inl l3)))]; exact l4
theorem CW.kk {w : WD} {b ca co dd rw' : Nat} (h : CW w S R I b ca co dd rw') (hc : I' ca = I ca) (hd : I' dd = I dd) (hr : I' rw' = I rw') (hI : ∀ x, pa x → fineA S x → I' x = I x) (hR : ∀ x, S x = (17, 0) ∨ S x = (14, 0) → R' x = R x) (hb : R' b = R b) (hdd : R' dd = R dd) : CW w S R' I' b ca co dd rw' := by
  obtain ⟨h1, ⟨p, h2, h3⟩, h4, h5, h6⟩ := h
  refine ⟨?_, ⟨p, by rw [hb]; exact h2, h3.kk hI hR⟩, fun j hj => by rw [hc]; exact h4 j hj, ?_, h6.eq hd hr⟩
  · unfold BdS at *; rw [hb]; exact h1
  · unfold DdS at *; rw [hdd]; exact h5
end KK
section CPW
variable {S : mkS} {I : mkI} {L : mkL} {R : mkR} {n : Nat × Nat}
theorem c_dbec {dd rw' dd2 rw2 : Nat} (h1 : DdS S R dd rw') (h2 : DdS S R dd2 rw2) (I : mkI) (hn : dd2 ≠ dd) : F_X3_become (some dd) (some dd2) (mk S I L R n) = some (mk S (up2 (up2 (up1 I rw' (va_cpy (I rw2) (I rw') 0 0 810)) dd 1 (I dd2 1)) dd 2 (I dd2 2)) L R n) := by
  have hr : rw' ≠ dd2 := fun e => by have := h1.2.2.2.1; rw [e, h2.1] at this; simp at this
  have c1 : cpI (mk S I L R n) (some rw2) (0 : Int32) (some rw') (0 : Int32) (nI 810) = some (mk S (up1 I rw' (va_cpy (I rw2) (I rw') 0 0 810)) L R n) := mk_cpI (sp := 0) (dp := 0) (nn := 810) h2.2.2.2.1 h1.2.2.2.1 (by decide) (by decide) (by decide) (by decide) h1.2.2.2.2
  unfold F_X3_become
  rw [dd_0 h2, Option.bind_some, dd_0 h1, Option.bind_some, Option.bind_some, mk_aNt0 h1.2.2.2.1, Option.bind_some, c1, Option.bind_some, dd_1 h2, Option.bind_some, dd_p1 h1, Option.bind_some, dd_2 h2, Option.bind_some, dd_p2 h1, Option.bind_some, up1_ne _ _ (Ne.symm hr), up2_ne _ _ _ hn, up1_ne _ _ (Ne.symm hr)]
theorem cpy810 {f g : Nat → Int32} {j : Nat} (h : j < 810) : va_cpy f g 0 0 810 j = f j := by
  show (if 0 ≤ j ∧ j < 0 + 810 then f (0 + (j - 0)) else g j) = f j
  rw [if_pos ⟨by omega, by omega⟩, Nat.zero_add, Nat.sub_zero]
theorem c_cpW {w : WD} {b ca co dd rw' b2 ca2 co2 dd2 rw2 : Nat} (h1 : BdS S R b ca co) (h5 : DdS S R dd rw') (h : CW w S R I b2 ca2 co2 dd2 rw2) (hb : b ≠ b2) (hd : dd2 ≠ dd) (hc : ca ≠ rw2) (n1 : S (ca - 1) ≠ (14, 0)) (n2 : S (rw' - 1) ≠ (14, 0)) : ∃ I1 I' R', F_X0_become (some b) (some b2) (mk S I L R n) = some (mk S I1 L R' n) ∧ F_X3_become (some dd) (some dd2) (mk S I1 L R' n) = some (mk S I' L R' n) ∧ (∀ x, x ≠ ca → x ≠ dd → x ≠ rw' → I' x = I x) ∧ (∀ x, x ≠ b → R' x = R x) ∧ (∀ j, j ≠ 2 → R' b j = R b j) ∧ CW w S R' I' b ca co dd rw' := by
  obtain ⟨g1, ⟨p, g2, g3⟩, g4, g5, nx, g6, g7, g8, g9⟩ := h
  have hbd : b ≠ dd := fun e => by have := h1.1; rw [e, h5.1] at this; simp at this
  have hbd2 : b ≠ dd2 := fun e => by have := h1.1; rw [e, g5.1] at this; simp at this
  have k1 : DdS S (up2 R b 2 (some p)) dd rw' := by
    unfold DdS at *; rw [up2_ne _ _ _ (Ne.symm hbd)]; exact h5
  have k2 : DdS S (up2 R b 2 (some p)) dd2 rw2 := by
    unfold DdS at *; rw [up2_ne _ _ _ (Ne.symm hbd2)]; exact g5
  have cd : ca ≠ dd := fun e => by have := h1.2.2.2.1; rw [e, h5.1] at this; simp at this
  have cr : ca ≠ rw' := fun e => by have := h1.2.2.2.1; rw [e, h5.2.2.2.1] at this; simp at this
  have cd2 : ca ≠ dd2 := fun e => by have := h1.2.2.2.1; rw [e, g5.1] at this; simp at this
  have dr : dd ≠ rw' := fun e => by have := h5.1; rw [e, h5.2.2.2.1] at this; simp at this
  refine ⟨_, _, up2 R b 2 (some p), c_become h1 g1 hb g2, c_dbec k1 k2 _ hd, fun x x1 x2 x3 => ?_, fun x hx => up2_ne _ _ _ hx, fun j hj => by rw [up2_row, up1_ne _ _ hj], ?_, ⟨p, up2_self _ _ _ _, ?_⟩, fun j hj => ?_, k1, nx, g6, ?_, ?_, fun i hi j hj => ?_⟩
  · rw [up2_ne _ _ _ x2, up2_ne _ _ _ x2, up1_ne _ _ x3, up1_ne _ _ x1]
  · obtain ⟨a1, a2, a3, a4⟩ := h1
    exact ⟨a1, by rw [up2_row, up1_ne _ _ (by decide)]; exact a2, by rw [up2_row, up1_ne _ _ (by decide)]; exact a3, a4⟩
  · refine g3.kk (fun x hx hf => ?_) (fun x hx => up2_ne _ _ _ (fun e => ?_))
    · have q1 : x ≠ ca := fun e => by
        subst e
        rcases hf with q | q | q | ⟨q, -⟩
        · rw [h1.2.2.2.1] at q; simp at q
        · rw [h1.2.2.2.1] at q; simp at q
        · rw [h1.2.2.2.1] at q; simp at q
        · exact n1 q
      have q2 : x ≠ dd := fun e => by
        subst e
        rcases hf with q | q | q | ⟨-, len, q⟩ <;> rw [h5.1] at q <;> simp at q
      have q3 : x ≠ rw' := fun e => by
        subst e
        rcases hf with q | q | q | ⟨q, -⟩
        · rw [h5.2.2.2.1] at q; simp at q
        · rw [h5.2.2.2.1] at q; simp at q
        · rw [h5.2.2.2.1] at q; simp at q
        · exact n2 q
      rw [up2_ne _ _ _ q2, up2_ne _ _ _ q2, up1_ne _ _ q3, up1_ne _ _ q1]
    · subst e
      rcases hx with q | q <;> rw [h1.1] at q <;> simp at q
  · rw [up2_ne _ _ _ cd, up2_ne _ _ _ cd, up1_ne _ _ cr, up1_self, cpy81 hj]
    exact g4 j hj
  · rw [up2_row, up1_ne _ _ (by decide), up2_self, up1_ne _ _ (Ne.symm cd2)]
    exact g7
  · rw [up2_self, up1_ne _ _ (Ne.symm cd2)]
    exact g8
  · have hk : 81 * ((nx + 9 - i) % 10) + j < 810 := by
      have := Nat.mod_lt (nx + 9 - i) (show 0 < 10 by decide)
      omega
    rw [up2_ne _ _ _ (Ne.symm dr), up2_ne _ _ _ (Ne.symm dr), up1_self, cpy810 hk, up1_ne _ _ (Ne.symm hc)]
    exact g9 i hi j hj
end CPW
theorem RPlan.k3205 {P : PL} {K K' : Nat → Int32} (h : RPlan P K) (hP : PlOK P) (hk : ∀ k, k < 3205 → K' k = K k) : RPlan P K' := by
  obtain ⟨p0, p1, p2, p3, ⟨p4, p5⟩, ⟨p6, p7⟩, p8, p9⟩ := h
  have w3 := hP.2.2.1
  have w4 := hP.2.2.2.1.1
  have w5 := hP.2.2.2.2.1.1
  have w6 := hP.2.2.2.2.2.1
  exact ⟨by rw [hk _ (by omega)]; exact p0, by rw [hk _ (by omega)]; exact p1, by rw [hk _ (by omega)]; exact p2, fun k q => by rw [hk _ (by omega)]; exact p3 k q, ⟨by rw [hk _ (by omega)]; exact p4, fun j q => by rw [hk _ (by omega)]; exact p5 j q⟩, ⟨by rw [hk _ (by omega)]; exact p6, fun j q => by rw [hk _ (by omega)]; exact p7 j q⟩, by rw [hk _ (by omega)]; exact p8, fun j q => by rw [hk _ (by omega)]; exact p9 j q⟩
theorem RW.k3205 {w : WD} {K K' : Nat → Int32} (h : RW w K) {Mx : Nat} (hw : WOK Mx w) (hk : ∀ k, k < 3205 → K' k = K k) : RW w K' := by
  obtain ⟨h1, h2, h3, h4⟩ := h
  obtain ⟨v1, v2, v3, -⟩ := hw
  refine ⟨h1.k3205 v1 hk, h2.keep (fun k _ q => hk k (by omega)), by rw [hk _ (by omega)]; exact h3, fun i hi => (h4 i hi).mv ?_ (fun j hj => hk _ (by omega))⟩
  have hm : w.2.2.reverse.getD i bb0 ∈ w.2.2 := by
    rw [revD hi, List.getD_eq_getElem?_getD, List.getElem?_eq_getElem (by omega)]
    exact List.getElem_mem _
  obtain ⟨F, T, A, D, M, ⟨⟨b1, -⟩, -⟩, -⟩ := v3 _ (List.mem_cons_of_mem _ hm)
  exact b1
