/-! the reference: a call begins -/
/-- what minutes may change in the reference -/
def keepM (I I' : mkI) : Prop := (∀ a, a ≠ 197 → a ≠ 198 → a ≠ 203 → a ≠ 204 → I' a = I a) ∧ (∀ k, k ≠ 22 → I' 197 k = I 197 k) ∧ ∀ k, k < 8 ∨ 48 ≤ k → I' 198 k = I 198 k
theorem keepM.rf {I : mkI} : keepM I I := ⟨fun _ _ _ _ _ => rfl, fun _ _ => rfl, fun _ _ => rfl⟩
theorem keepM.tr {I I' I'' : mkI} (h : keepM I I') (h2 : keepM I' I'') : keepM I I'' := ⟨fun a q1 q2 q3 q4 => (h2.1 a q1 q2 q3 q4).trans (h.1 a q1 q2 q3 q4), fun k q => (h2.2.1 k q).trans (h.2.1 k q), fun k q => (h2.2.2 k q).trans (h.2.2 k q)⟩
theorem keepM.ofA {I I' : mkI} (h : keepA I I') : keepM I I' := ⟨fun a _ _ q3 q4 => h a q4 q3, fun k _ => by rw [h _ (by decide) (by decide)], fun k _ => by rw [h _ (by decide) (by decide)]⟩
theorem keepM.k {I : mkI} {k : Nat} {x : Int32} (hk : 8 ≤ k ∧ k < 48) : keepM I (up2 I 198 k x) := ⟨fun a _ q2 _ _ => up2_ne _ _ _ q2, fun j _ => by rw [up2_ne _ _ _ (by decide)], fun j hj => by rw [up2_row, up1_ne _ _ (by omega)]⟩
theorem RPlan.keep {P : PL} {K K' : Nat → Int32} (hP : PlOK P) (h : RPlan P K) (hk : ∀ k, k < 8 ∨ 48 ≤ k → K' k = K k) : RPlan P K' := by
  obtain ⟨p0, p1, p2, p3, ⟨p4, p5⟩, ⟨p6, p7⟩, p8, p9⟩ := h
  exact ⟨by rw [hk _ (by omega)]; exact p0, by rw [hk _ (by omega)]; exact p1, by rw [hk _ (by omega)]; exact p2, fun k q => by rw [hk _ (by omega)]; exact p3 k q, ⟨by rw [hk _ (by omega)]; exact p4, fun j q => by rw [hk _ (by omega)]; exact p5 j q⟩, ⟨by rw [hk _ (by omega)]; exact p6, fun j q => by rw [hk _ (by omega)]; exact p7 j q⟩, by rw [hk _ (by omega)]; exact p8, fun j q => by rw [hk _ (by omega)]; exact p9 j q⟩
section RG
variable {S : mkS} {L : mkL} {R : mkR} {n : Nat × Nat}
set_option maxHeartbeats 4000000 in
theorem e_cb91 (hs : St S R) {P : PL} (hP : PlOK P) (I : mkI) (hKP : RPlan P (I 198)) {C : Nat} {f : Nat → Int32} (hB : RBoard C f (I 198)) {c a b : Nat} (hc : c < C) (ha : a < 8) (hb : b < 8) (hfr : f (11 + 7 * c) = nI a) (cord : Int32) :
    ∃ I', keepM I I' ∧ F_X12_callBegins_91 (some 197) (nI c) (nI a) (nI b) cord (mk S I L R n) = some (mk S I' L R n) ∧ RBoard C (aPut P f c (nI a) (nI b) cord) (I' 198) ∧ I' 197 22 = if cord = -1 then I 197 22 ||| ((1 : Int32) <<< (nI c &&& 31)) else I 197 22 := by
  have hC := hB.1
  unfold F_X12_callBegins_91 aPut
  rw [nI_clamp (by omega), nI_clamp (by omega)]
  by_cases hcd : cord = -1
  · rw [if_pos hcd, if_pos hcd, if_pos hcd]
    refine ⟨up2 (up2 I 198 (8 + c) 3) 197 22 (I 197 22 ||| ((1 : Int32) <<< (nI c &&& 31))), ?_, ?_, ?_, ?_⟩
    · refine (keepM.k (x := 3) ⟨by omega, by omega⟩).tr ⟨fun a q1 _ _ _ => up2_ne _ _ _ q1, fun k q => by rw [up2_row, up1_ne _ _ q], fun k _ => by rw [up2_ne _ _ _ (by decide)]⟩
    · simp only [gr_197_0 hs, Option.bind_some, li_add 8, si_198 hs (show 8 + c < 3205 by omega), gi_197_22 hs, pi_197_22 hs, up2_ne _ _ _ (show 197 ≠ 198 by decide)]
    · rw [up2_ne _ _ _ (by decide), up2_row]; exact rb_st hB hc 3
    · rw [up2_self]
  · rw [if_neg hcd, if_neg hcd, if_neg hcd]
    obtain ⟨I3, hI3⟩ : ∃ I3, I3 = up2 (up2 (up2 I 198 (8 + c) 1) 198 (18 + c) (nI b)) 198 (28 + c) cord := ⟨_, rfl⟩
    obtain ⟨f3, hf3⟩ : ∃ f3, f3 = up1 (up1 (up1 f (15 + 7 * c) 1) (16 + 7 * c) (nI b)) (17 + 7 * c) cord := ⟨_, rfl⟩
    have k3 : keepM I I3 := by rw [hI3]; exact ((keepM.k ⟨by omega, by omega⟩).tr (keepM.k ⟨by omega, by omega⟩)).tr (keepM.k ⟨by omega, by omega⟩)
    have B3 : RBoard C f3 (I3 198) := by rw [hI3, hf3, up2_row, up2_row, up2_row]; exact rb_co (rb_ca (rb_st hB hc 1) hc (nI b)) hc cord
    have P3 : RPlan P (I3 198) := hKP.keep hP k3.2.2
    have m3 : I3 197 = I 197 := by rw [hI3, up2_ne _ _ _ (by decide), up2_ne _ _ _ (by decide), up2_ne _ _ _ (by decide)]
    obtain ⟨q1, q2, q3, q4, q5, q6, q7⟩ := B3.2.2.2.2.2.2 c hc
    have s1 := B3.2.2.2.2.2.1 a ha
    have s2 := B3.2.2.2.2.2.1 b hb
    have s3 := B3.2.2.1
    have z1 : f3 (12 + 7 * c) = f (12 + 7 * c) := by rw [hf3, up1_ne _ _ (by omega), up1_ne _ _ (by omega), up1_ne _ _ (by omega)]
    have z2 : f3 (3 + a) = f (3 + a) := by rw [hf3, up1_ne _ _ (by omega), up1_ne _ _ (by omega), up1_ne _ _ (by omega)]
    have z3 : f3 (3 + b) = f (3 + b) := by rw [hf3, up1_ne _ _ (by omega), up1_ne _ _ (by omega), up1_ne _ _ (by omega)]
    have z4 : f3 0 = f 0 := by rw [hf3, up1_ne _ _ (by omega), up1_ne _ _ (by omega), up1_ne _ _ (by omega)]
    have z5 : f3 (11 + 7 * c) = nI a := by rw [hf3, up1_ne _ _ (by omega), up1_ne _ _ (by omega), up1_ne _ _ (by omega), hfr]
    rw [z1] at q2; rw [z2] at s1; rw [z3] at s2; rw [z4] at s3; rw [z5] at q1
    simp only [gr_197_0 hs, Option.bind_some, li_add 8, li_add 18, li_add 28, li_add 38, li_add 61, si_198 hs (show 8 + c < 3205 by omega), si_198 hs (show 18 + c < 3205 by omega), si_198 hs (show 28 + c < 3205 by omega), ← hI3, ai_198 hs (show 61 + c < 3205 by omega), ai_198 hs (show 38 + a < 3205 by omega), ai_198 hs (show 38 + b < 3205 by omega), q2, s1, s2, cv_197 hs, F_X12_callBegins_201]
    obtain ⟨I4, k4, e4⟩ := e_marriesBy (n := n) (L := L) hs hP I3 P3 (show c < 10 by omega) (nI b)
    rw [q1, s3] at e4
    have u4 : I4 198 = I3 198 := k4 _ (by decide) (by decide)
    have m4 : I4 197 = I3 197 := k4 _ (by decide) (by decide)
    simp only [e4, b2_some, b2i_0, gr_197_0 hs, Option.bind_some, li_add 38, si_198 hs (show 38 + a < 3205 by omega), si_198 hs (show 38 + b < 3205 by omega)]
    rw [← hf3]
    by_cases t1 : nI b = f (12 + 7 * c)
    · rw [if_pos t1, if_neg (fun h => h.1 t1)]; exact ⟨I3, k3, rfl, B3, by rw [m3]⟩
    · rw [if_neg t1]
      by_cases t2 : f (3 + a) = -1
      · rw [if_pos t2]
        by_cases t3 : f (3 + b) = -1
        · rw [if_pos t3]
          by_cases t4 : aWed P (nI a) (nI b) (f 0) (nI c) = true
          · rw [if_neg (by rw [t4]; decide), if_pos ⟨t1, t2, t3, t4⟩]
            refine ⟨up2 (up2 I4 198 (38 + a) (nI b)) 198 (38 + b) (nI a), ?_, rfl, ?_, ?_⟩
            · exact ((k3.tr (keepM.ofA k4)).tr (keepM.k ⟨by omega, by omega⟩)).tr (keepM.k ⟨by omega, by omega⟩)
            · rw [up2_row, up2_row, u4]; exact rb_sp (rb_sp B3 ha (nI b)) hb (nI a)
            · rw [up2_ne _ _ _ (by decide), up2_ne _ _ _ (by decide), m4, m3]
          · rw [if_pos (by simpa using t4), if_neg (fun h => t4 h.2.2.2)]
            exact ⟨I4, k3.tr (keepM.ofA k4), rfl, by rw [u4]; exact B3, by rw [m4, m3]⟩
        · rw [if_neg t3, if_neg (fun h => t3 h.2.2.1)]; exact ⟨I3, k3, rfl, B3, by rw [m3]⟩
      · rw [if_neg t2, if_neg (fun h => t2 h.2.1)]; exact ⟨I3, k3, rfl, B3, by rw [m3]⟩
end RG
