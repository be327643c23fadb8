/-! exchange: the reference's end; what both sides hold behind it -/
section EX1
variable {S : mkS} {L : mkL} {R : mkR} {n : Nat × Nat}
theorem e_copyT (hs : St S R) : ∀ (r g j : Nat) (I : mkI), j + r = 3205 → r < g → ∃ I', F_X12_exchange_189 g (some 197) (nI j) (mk S I L R n) = F_X12_exchange_216 mm_N (some 197) 0 (mk S I' L R n) ∧ (∀ x, x ≠ 198 → I' x = I x) ∧ ∀ q, q < 3205 → I' 198 q = if j ≤ q then I 199 q else I 198 q := by
  intro r
  induction r with
  | zero =>
    intro g j I hj hg
    obtain ⟨g, rfl⟩ : ∃ z, g = z + 1 := ⟨g - 1, by omega⟩
    have : j = 3205 := by omega
    subst this
    refine ⟨I, ?_, fun _ _ => rfl, fun q hq => by rw [if_neg (by omega)]⟩
    simp only [F_X12_exchange_189]
    rw [if_pos (by decide)]
  | succ r ih =>
    intro g j I hj hg
    obtain ⟨g, rfl⟩ : ∃ z, g = z + 1 := ⟨g - 1, by omega⟩
    obtain ⟨I', q1, q2, q3⟩ := ih g (j + 1) (up2 I 198 j (I 199 j)) (by omega) (by omega)
    refine ⟨I', ?_, fun x hx => by rw [q2 x hx, up2_ne _ _ _ hx], fun q hq => ?_⟩
    · simp only [F_X12_exchange_189]
      rw [if_neg (show ¬ (3205 : Int32) ≤ nI j from nI_ge (b := 3205) (by omega) (by omega)), gr_197_0 hs, Option.bind_some, gr_197_1 hs, Option.bind_some, ai_199 hs (by omega), Option.bind_some, si_198 hs (by omega), Option.bind_some, nI_1]
      exact q1
    · rw [q3 q hq]
      by_cases e : j + 1 ≤ q
      · rw [if_pos e, if_pos (by omega), up2_ne _ _ _ (by decide)]
      · rw [if_neg e]
        by_cases e2 : q = j
        · subst e2; rw [up2_self, if_pos (Nat.le_refl _)]
        · rw [if_neg (by omega), up2_row, up1_ne _ _ e2]
theorem e_lostT (hs : St S R) {C : Nat} (hC : C ≤ 10) : ∀ (r g c : Nat) (I : mkI), c + r = C → r < g → I 198 7 = nI C → ∃ I', F_X12_exchange_216 g (some 197) (nI c) (mk S I L R n) = some (I 198 0, mk S I' L R n) ∧ (∀ x, x ≠ 198 → I' x = I x) ∧ (∀ q, ¬ (8 + c ≤ q ∧ q < 8 + C) → I' 198 q = I 198 q) ∧ ∀ d, c ≤ d → d < C → I' 198 (8 + d) = if I 198 (71 + d) < I 198 47 then 3 else I 198 (8 + d) := by
  intro r
  induction r with
  | zero =>
    intro g c I hc hg h7
    obtain ⟨g, rfl⟩ : ∃ z, g = z + 1 := ⟨g - 1, by omega⟩
    refine ⟨I, ?_, fun _ _ => rfl, fun _ _ => rfl, fun d h1 h2 => by omega⟩
    simp only [F_X12_exchange_216]
    rw [cv_197 hs, e_calls hs, b2_some, h7, if_pos (nI_le (by omega) (by omega)), gr_197_0 hs, Option.bind_some, show aI (mk S I L R n) (some 198) 0 (0 : Int32) = _ from ai_198 (k := 0) hs (by omega), Option.bind_some]
  | succ r ih =>
    intro g c I hc hg h7
    obtain ⟨g, rfl⟩ : ∃ z, g = z + 1 := ⟨g - 1, by omega⟩
    obtain ⟨J, hJ⟩ : ∃ J, J = if I 198 (71 + c) < I 198 47 then up2 I 198 (8 + c) 3 else I := ⟨_, rfl⟩
    have kJ : ∀ x, x ≠ 198 → J x = I x := fun x hx => by
      rw [hJ]; split
      · exact up2_ne _ _ _ hx
      · rfl
    have pJ : ∀ q, q ≠ 8 + c → J 198 q = I 198 q := fun q hq => by
      rw [hJ]; split
      · rw [up2_row, up1_ne _ _ hq]
      · rfl
    have step : F_X12_exchange_216 (g + 1) (some 197) (nI c) (mk S I L R n) = F_X12_exchange_216 g (some 197) (nI (c + 1)) (mk S J L R n) := by
      simp only [F_X12_exchange_216]
      unfold F_X12_exchange_253
      rw [cv_197 hs, e_calls hs, b2_some, h7, if_neg (nI_ge (by omega) (by omega)), gr_197_0 hs, Option.bind_some, show (71 : Int32) + nI c = nI (71 + c) from nI_add 71 _, ai_198 hs (by omega), Option.bind_some, Option.bind_some, show aI (mk S I L R n) (some 198) 0 (47 : Int32) = _ from ai_198 (k := 47) hs (by omega), Option.bind_some, Option.bind_some, show (8 : Int32) + nI c = nI (8 + c) from nI_add 8 _, si_198 hs (by omega), Option.bind_some, nI_1, hJ]
      by_cases e : I 198 (71 + c) < I 198 47
      · rw [if_pos e, if_neg (by rw [Int32.le_iff_toInt_le]; rw [Int32.lt_iff_toInt_lt] at e; omega)]
      · rw [if_neg e, if_pos (by rw [Int32.le_iff_toInt_le]; rw [Int32.lt_iff_toInt_lt] at e; omega)]
    obtain ⟨I', q1, q2, q3, q4⟩ := ih g (c + 1) J (by omega) (by omega) (by rw [pJ _ (by omega)]; exact h7)
    refine ⟨I', by rw [step, q1, pJ _ (by omega)], fun x hx => by rw [q2 x hx, kJ x hx], fun q hq => by rw [q3 q (by omega), pJ q (by omega)], fun d h1 h2 => ?_⟩
    by_cases e : d = c
    · subst e
      rw [q3 _ (by omega), hJ]
      split
      · rw [up2_self]
      · rfl
    · rw [q4 d (by omega) h2, pJ _ (by omega), pJ _ (by omega), pJ _ (by omega)]
theorem DfR.rw {D : DR} {K K' : Nat → Int32} (h : DfR D K) (hG : DG D) (h1 : ∀ q, q < 3205 → ¬ (8 ≤ q ∧ q < 8 + dC D) → K' q = K q) (h2 : ∀ d, d < dC D → K' (8 + d) = if K (71 + d) < K 47 then 3 else K (8 + d)) : RW (WN D) K' := by
  obtain ⟨⟨d1, d2, d3⟩, ⟨d4, d5⟩, ⟨d6, d6'⟩, ⟨d7, d7', d7''⟩, d8⟩ := h
  obtain ⟨a1, ⟨a2, a2'⟩, ⟨a3, a3'⟩, a4⟩ := hG
  have la := fun w hw => (a4 w hw).1
  have lb : ∀ w, w < 3 → K' (3 + w) = nI (dL D w).length ∧ ∀ j, j < (dL D w).length → K' (501 + 900 * w + j) = nI (gam ((dL D w).getD j 0)) := fun w hw => by
    have := la w hw
    exact ⟨by rw [h1 _ (by omega) (by omega)]; exact (d8 w hw).1, fun j hj => by rw [h1 _ (by omega) (by omega)]; exact (d8 w hw).2 j hj⟩
  have cl := bN_call (D := D) (dC D)
  refine ⟨⟨by rw [h1 _ (by omega) (by omega)]; exact d1, by rw [h1 _ (by omega) (by omega)]; exact d2, by rw [h1 _ (by omega) (by omega)]; exact d4, fun k hk => ?_, lb 0 (by decide), lb 1 (by decide), lb 2 (by decide)⟩, ⟨a3, bN_1 _, ?_, ?_, ?_, fun l hl => ?_, fun c hc => ?_⟩, ?_, fun i hi => absurd hi (Nat.not_lt_zero _)⟩
  · have hk' : k < dK D := hk
    rw [h1 _ (by omega) (by omega)]; exact d5 k hk'
  · rw [h1 _ (by omega) (by omega), d3]
    show _ = bN D (dC D) 0
    rw [bN_lo _ 0 (by decide) (by decide)]; rfl
  · rw [h1 _ (by omega) (by omega), d6]
    exact (bN_1 _).symm
  · rw [h1 _ (by omega) (by omega), d7']
    show _ = bN D (dC D) 2
    rw [bN_lo _ 2 (by decide) (by decide)]; rfl
  · rw [h1 _ (by omega) (by omega), d7 l hl]
    show _ = bN D (dC D) (3 + l)
    rw [bN_lo _ (3 + l) (by omega) (by omega)]
    show _ = (if 3 + l = 0 then _ else if 3 ≤ 3 + l ∧ 3 + l < 11 then (-1 : Int32) else 0)
    rw [if_neg (by omega), if_pos (by omega)]
  · have hc' : c < dC D := hc
    obtain ⟨c1, c2, c3, c4, c5, c6, c7⟩ := cl c hc'
    obtain ⟨⟨e1, e2, e3, e4⟩, e5, e6, e7⟩ := d6' c hc'
    show K' (51 + c) = bN D (dC D) (11 + 7 * c) ∧ K' (61 + c) = bN D (dC D) (12 + 7 * c) ∧ K' (71 + c) = bN D (dC D) (13 + 7 * c) ∧ K' (81 + c) = bN D (dC D) (14 + 7 * c) ∧ K' (8 + c) = bN D (dC D) (15 + 7 * c) ∧ K' (18 + c) = bN D (dC D) (16 + 7 * c) ∧ K' (28 + c) = bN D (dC D) (17 + 7 * c)
    rw [c1, c2, c3, c4, c5, c6, c7, h2 c hc', e3, d3, e5, h1 _ (by omega) (by omega), h1 _ (by omega) (by omega), h1 _ (by omega) (by omega), h1 _ (by omega) (by omega), h1 _ (by omega) (by omega), h1 _ (by omega) (by omega)]
    exact ⟨e1, e2, e3, e4, rfl, e6, e7⟩
  · show K' 6 = nI 0
    rw [h1 _ (by omega) (by omega), d7'']; rfl
end EX1
theorem InvC.ex {tb : Nat → Nat} {tn : Nat} {fk fp fk' fp' : Int32} {w : WD} {tr : TR} {im : IM} {k : Nat} {S : mkS} {I I' : mkI} {L : mkL} {R : mkR} {n : Nat × Nat} (h : InvC tb tn fk fp w tr im k S I L R n) (hI : ∀ x, x ≠ 128 → ¬ scr x → I' x = I x) (h1 : I' 128 1 = 0) (h3 : I' 128 3 = fk') (h4 : I' 128 4 = fp') : InvC tb 0 fk' fp' w tr im k S I' L R n := by
  obtain ⟨⟨s1, s2, s3, s4, s5, s6⟩, ⟨t1, t2, t3⟩, ⟨u1, u2⟩, v1, v2, v3, v4⟩ := h
  have pp : ∀ x, pa x → I' x = I x := fun x q => hI x (by unfold pa at q; show x ≠ 128; omega) (by unfold pa at q; unfold scr; omega)
  refine ⟨⟨s1, s2, s3, s4, s5, s6⟩, ⟨Nat.zero_le _, h1, fun j hj => absurd hj (Nat.not_lt_zero _)⟩, ⟨h3, h4⟩, v1.keep s2 (fun x q _ => ?_), fun t ht => ?_, ⟨v3.1, fun i hi => ?_⟩, ?_⟩
  · rcases q with q | q | q | q
    · exact hI x (by show x ≠ 128; omega) (by unfold scr; omega)
    · exact hI x (by show x ≠ 128; omega) (by unfold scr; omega)
    · exact hI x (by show x ≠ 128; omega) (by unfold scr; omega)
    · exact pp x q
  · have := v2 t ht
    rw [hI _ (by show _ ≠ 128; omega) (by unfold scr; omega)]
    exact this
  · have := v3.2 i hi
    revert this
    cases im i with
    | none => exact id
    | some w =>
      rintro ⟨a, a1, a2, a3, a4⟩
      exact ⟨a, a1, a2, a3, a4.keep s2 (fun x q _ => by
        rcases q with q | q | q | q
        · exact hI x (by show x ≠ 128; omega) (by unfold scr; omega)
        · exact hI x (by show x ≠ 128; omega) (by unfold scr; omega)
        · exact hI x (by show x ≠ 128; omega) (by unfold scr; omega)
        · exact pp x q)⟩
  · rcases v4 with v4 | ⟨p, P, p1, p2, p3, p4⟩
    · exact .inl v4
    · refine .inr ⟨p, P, p1, p2, p3.keep s2 (fun x q _ => pp x q), ?_⟩
      unfold PRes at *
      rw [hI 157 (by decide) (by unfold scr; decide), hI 159 (by decide) (by unfold scr; decide), hI 160 (by decide) (by unfold scr; decide)]
      exact p4
theorem InvR.ex {tb : Nat → Nat} {tn : Nat} {fk fp fk' fp' : Int32} {w w' : WD} {tr : TR} {im : IM} {I I' : mkI} {L : mkL} (h : InvR tb tn fk fp w tr im I L) (hI : ∀ x, x ≠ 197 → x ≠ 199 → x ≠ 198 → I' x = I x) (h6 : I' 197 6 = 0) (h14 : I' 197 14 = fk') (h15 : I' 197 15 = fp') (hw : RW w' (I' 198)) : InvR tb 0 fk' fp' w' tr im I' L := by
  obtain ⟨h1, h2, h3, h4, h5, h7⟩ := h
  unfold InvR RTr RIm at *
  rw [hI 217 (by decide) (by decide) (by decide), hI 218 (by decide) (by decide) (by decide), hI 201 (by decide) (by decide) (by decide), hI 200 (by decide) (by decide) (by decide), hI 205 (by decide) (by decide) (by decide)]
  exact ⟨⟨Nat.zero_le _, h6, fun j hj => absurd hj (Nat.not_lt_zero _)⟩, ⟨h14, h15⟩, hw, h4, h5, h7⟩
