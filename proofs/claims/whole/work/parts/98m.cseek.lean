/-! the most calls: the class's search -/
theorem fB_hi {Q : BQ} {K s : Nat} : ∀ (r c : Nat) (κ : KP), s < 2 ^ c → fB Q K s r c κ = true
  | 0, _, _, _ => rfl
  | r + 1, c, κ, h => by
    rw [fB, bit_lo h c (Nat.le_refl _), if_neg Bool.false_ne_true]
    exact fB_hi r (c + 1) _ (Nat.lt_of_lt_of_le h (Nat.pow_le_pow_right (by decide) (by omega)))
/-- what the search reads -/
def BSt (Q : BQ) (K C : Nat) (I : mkI) : Prop := I 135 5 = nI K ∧ (∀ k, k < K → ∃ t, I 142 k = nI t ∧ t < 2 ^ C ∧ ∀ c, c < C → t.testBit c = (qE Q c && qC Q k c)) ∧ (∀ c, c < C → ∃ m, I 144 c = nI m ∧ m < 2 ^ C ∧ ∀ d, d < C → m.testBit d = meP Q c d) ∧ ∀ c, c < C → ∃ u, I 145 c = nI u ∧ u < 2 ^ C ∧ ∀ d, d < C → u.testBit d = clP Q c d
def Us (κ : KP) (c : Nat) (I : mkI) : Prop := ∀ k, k < 3 → ∃ u, I 143 k = nI u ∧ u < 2 ^ c ∧ ∀ d, d < c → u.testBit d = decide (κ d = some k)
theorem BSt.k {Q : BQ} {K C : Nat} {I I' : mkI} (h : BSt Q K C I) (h1 : I' 135 5 = I 135 5) (h2 : I' 142 = I 142) (h3 : I' 144 = I 144) (h4 : I' 145 = I 145) : BSt Q K C I' := by
  unfold BSt at *; rw [h1, h2, h3, h4]; exact h
theorem Us.skip {κ : KP} {c : Nat} {I : mkI} (h : Us κ c I) : Us (up1 κ c none) (c + 1) I := fun k hk => by
  obtain ⟨u, h1, h2, h3⟩ := h k hk
  refine ⟨u, h1, Nat.lt_of_lt_of_le h2 (Nat.pow_le_pow_right (by decide) (by omega)), fun d hd => ?_⟩
  by_cases e : d = c
  · rw [e, up1_self, bit_lo h2 c (Nat.le_refl _)]; rfl
  · rw [up1_ne _ _ e]; exact h3 d (by omega)
theorem Us.put {κ : KP} {c : Nat} {I : mkI} (h : Us κ c I) {k u : Nat} (hk : k < 3) (hu : I 143 k = nI u) (hu2 : u < 2 ^ c) (hu3 : ∀ d, d < c → u.testBit d = decide (κ d = some k)) : Us (up1 κ c (some k)) (c + 1) (up2 I 143 k (nI (u ||| 2 ^ c))) := fun j hj => by
  by_cases e : j = k
  · subst e
    refine ⟨u ||| 2 ^ c, by rw [up2_self], or_lt2 hu2, fun d hd => ?_⟩
    rw [or_bit]
    by_cases z : d = c
    · rw [z, up1_self, decide_eq_true (show c = c from rfl), Bool.or_true, decide_eq_true (show some j = some j from rfl)]
    · rw [up1_ne _ _ z, decide_eq_false (fun q => z q.symm), Bool.or_false]; exact hu3 d (by omega)
  · obtain ⟨u', h1, h2, h3⟩ := h j hj
    refine ⟨u', by rw [up2_row, up1_ne _ _ e]; exact h1, Nat.lt_of_lt_of_le h2 (Nat.pow_le_pow_right (by decide) (by omega)), fun d hd => ?_⟩
    by_cases z : d = c
    · rw [z, up1_self, bit_lo h2 c (Nat.le_refl _), decide_eq_false (fun q => e (Option.some.inj q).symm)]
    · rw [up1_ne _ _ z]; exact h3 d (by omega)
section CSk
variable {S : mkS} {L : mkL} {R : mkR} {n : Nat × Nat} {Q : BQ} {K C : Nat}
theorem c_fits (hs : St S R) (hK : K ≤ 3) (hC : C ≤ 10) {s : Nat} (hs2 : s < 2 ^ C) : ∀ (r G c : Nat) (κ : KP) (I : mkI), c + r = C → r < G → BSt Q K C I → Us κ c I → ∃ I', G_X4_fits G (some 135) (nI s) (nI c) (mk S I L R n) = some (b2i (fB Q K s r c κ), mk S I' L R n) ∧ (∀ x, x ≠ 143 → I' x = I x) ∧ (fB Q K s r c κ = false → ∀ k, k < 3 → I' 143 k = I 143 k) := by
  have hC10 : 2 ^ C ≤ 2 ^ 10 := Nat.pow_le_pow_right (by decide) hC
  intro r
  induction r with
  | zero =>
    intro G c κ I hc hG hB hU
    obtain ⟨G, rfl⟩ : ∃ y, G = y + 1 := ⟨G - 1, by omega⟩
    have e : c = C := by omega
    subst e
    refine ⟨I, ?_, fun _ _ => rfl, fun _ _ _ => rfl⟩
    show F_X4_fits (G_X4_fits G) _ _ _ _ = _
    unfold F_X4_fits F_X4_fits_16
    rw [if_neg (nI_pos (by omega))]
    by_cases e10 : 10 ≤ c
    · rw [if_pos (show (10 : Int32) ≤ nI c from le_li 10 e10 (by omega)), rZ_1]; rfl
    · rw [if_neg (show ¬ (10 : Int32) ≤ nI c from ge_li 10 (by omega) (by decide)), if_pos ((shr_z s c (by omega) (by omega)).mpr hs2), rZ_1]; rfl
  | succ r ih =>
    intro G c κ I hc hG hB hU
    obtain ⟨G, rfl⟩ : ∃ y, G = y + 1 := ⟨G - 1, by omega⟩
    obtain ⟨b1, b2, b3, b4⟩ := id hB
    have hcC : c < C := by omega
    have hbit : ∀ v, (((nI v >>> (nI c &&& 31)) &&& 1) = 0) = (v.testBit c = false) := fun v => bit0 v c (by omega)
    show ∃ I', F_X4_fits (G_X4_fits G) _ _ _ _ = _ ∧ _
    unfold F_X4_fits F_X4_fits_16
    simp only [hbit, shr_z s c (by omega) (by omega)]
    rw [if_neg (nI_pos (by omega)), if_neg (show ¬ (10 : Int32) ≤ nI c from ge_li 10 (by omega) (by decide))]
    by_cases ez : s < 2 ^ c
    · rw [if_pos ez, rZ_1, fB_hi (r + 1) c κ ez]
      exact ⟨I, rfl, fun _ _ => rfl, fun h => by cases h⟩
    · rw [if_neg ez, fB]
      cases hb : s.testBit c with
      | false =>
        obtain ⟨I', z1, z2, z3⟩ := ih G (c + 1) (up1 κ c none) I (by omega) (by omega) hB hU.skip
        refine ⟨I', ?_, z2, ?_⟩
        · rw [if_pos rfl, nI_1, cv_135 hs, z1, b2_some, rZ_b, if_neg Bool.false_ne_true]
        · rw [if_neg Bool.false_ne_true]; exact z3
      | true =>
        rw [if_neg (fun q => by cases q), if_pos rfl]
        have loop : ∀ (z g k : Nat), k + z = K → z < g → ∃ I', F_X4_fits_37 (G_X4_fits G) g (some 135) (nI s) (nI c) (nI k) (mk S I L R n) = some (b2i ((List.range' k z).any fun k => (qE Q c && qC Q k c) && (freeB Q k c κ && fB Q K s r (c + 1) (up1 κ c (some k)))), mk S I' L R n) ∧ (∀ x, x ≠ 143 → I' x = I x) ∧ (((List.range' k z).any fun k => (qE Q c && qC Q k c) && (freeB Q k c κ && fB Q K s r (c + 1) (up1 κ c (some k)))) = false → ∀ k, k < 3 → I' 143 k = I 143 k) := by
          have gen : ∀ (z g k : Nat) (J : mkI), k + z = K → z < g → (∀ x, x ≠ 143 → J x = I x) → (∀ k, k < 3 → J 143 k = I 143 k) → ∃ I', F_X4_fits_37 (G_X4_fits G) g (some 135) (nI s) (nI c) (nI k) (mk S J L R n) = some (b2i ((List.range' k z).any fun k => (qE Q c && qC Q k c) && (freeB Q k c κ && fB Q K s r (c + 1) (up1 κ c (some k)))), mk S I' L R n) ∧ (∀ x, x ≠ 143 → I' x = I x) ∧ (((List.range' k z).any fun k => (qE Q c && qC Q k c) && (freeB Q k c κ && fB Q K s r (c + 1) (up1 κ c (some k)))) = false → ∀ k, k < 3 → I' 143 k = I 143 k) := by
            intro z
            induction z with
            | zero =>
              intro g k J hk hg k1 k2
              obtain ⟨g, rfl⟩ : ∃ y, g = y + 1 := ⟨g - 1, by omega⟩
              refine ⟨J, ?_, k1, fun _ => k2⟩
              simp only [F_X4_fits_37, F_X4_fits_125]
              rw [gi_135_5 hs, Option.bind_some, k1 _ (by decide), b1, if_pos (nI_le (by omega) (by omega)), rZ_0]
              rfl
            | succ z ihz =>
              intro g k J hk hg k1 k2
              obtain ⟨g, rfl⟩ : ∃ y, g = y + 1 := ⟨g - 1, by omega⟩
              obtain ⟨t, t1, t2, t3⟩ := b2 k (by omega)
              obtain ⟨m, m1, m2, m3⟩ := b3 c hcC
              obtain ⟨u, v1, v2, v3⟩ := hU k (by omega)
              have hbt : (((nI t >>> (nI c &&& 31)) &&& 1) = 1) = (t.testBit c = true) := by
                have := hasB_nI (v := t) (l := c) (by omega)
                unfold hasB at this
                rw [← this, decide_eq_true_eq]
              have hp9 : 2 ^ c ≤ 2 ^ 9 := Nat.pow_le_pow_right (by decide) (by omega)
              have hfr : (nI u &&& nI m = 0) ↔ freeB Q k c κ = true := by
                have h1 : u &&& m ≤ u := Nat.and_le_left
                rw [nI_and]
                refine (nI_eq (b := 0) (by omega) (by omega)).trans ((and_bits u m).trans ?_)
                rw [freeB_iff]
                constructor
                · intro h d hd e
                  have := h d (by rw [v3 d hd]; exact decide_eq_true e)
                  rw [m3 d (by omega)] at this
                  unfold meP at this
                  rw [decide_eq_true (show d ≠ c by omega), Bool.true_and] at this
                  exact this
                · intro h d hd
                  have hdc : d < c := by
                    refine Nat.lt_of_not_le (fun q => ?_)
                    rw [bit_lo v2 d q] at hd; cases hd
                  rw [v3 d hdc] at hd
                  rw [m3 d (by omega)]
                  unfold meP
                  rw [h d hdc (of_decide_eq_true hd), Bool.and_false]
              have nxt := ihz g (k + 1) J (by omega) (by omega) k1 k2
              rw [List.range'_succ, List.any_cons]
              have jk : J 143 k = nI u := by rw [k2 k (by omega)]; exact v1
              obtain ⟨J2, hJ2⟩ : ∃ J2, J2 = up2 J 143 k (nI (u ||| 2 ^ c)) := ⟨_, rfl⟩
              have kJ2 : ∀ x, x ≠ 143 → J2 x = I x := fun x hx => by rw [hJ2, up2_ne _ _ _ hx, k1 x hx]
              have UJ : Us κ c J := fun j hj => by rw [k2 j hj]; exact hU j hj
              obtain ⟨J3, p1, p2, p3⟩ := ih G (c + 1) (up1 κ c (some k)) J2 (by omega) (by omega) (hB.k (by rw [kJ2 _ (by decide)]) (kJ2 _ (by decide)) (kJ2 _ (by decide)) (kJ2 _ (by decide))) (by rw [hJ2]; exact UJ.put (by omega) jk v2 v3)
              have head : F_X4_fits_37 (G_X4_fits G) (g + 1) (some 135) (nI s) (nI c) (nI k) (mk S J L R n) = if t.testBit c = true then (if freeB Q k c κ = true then (if b2i (fB Q K s r (c + 1) (up1 κ c (some k))) = 0 then F_X4_fits_37 (G_X4_fits G) g (some 135) (nI s) (nI c) (nI (k + 1)) (mk S (up2 J3 143 k (J3 143 k &&& (nI (2 ^ c) ^^^ (-1)))) L R n) else rZ 1 (mk S J3 L R n)) else F_X4_fits_37 (G_X4_fits G) g (some 135) (nI s) (nI c) (nI (k + 1)) (mk S J L R n)) else F_X4_fits_37 (G_X4_fits G) g (some 135) (nI s) (nI c) (nI (k + 1)) (mk S J L R n) := by
                simp only [F_X4_fits_37, F_X4_fits_119, F_X4_fits_125]
                rw [gi_135_5 hs, Option.bind_some, k1 _ (by decide), b1, if_neg (nI_ge (by omega) (by omega)), if_neg (show ¬ (3 : Int32) ≤ nI k from ge_li 3 (by omega) (by decide)), gr_135_1 hs, Option.bind_some, ai_142 hs (by omega), Option.bind_some, k1 _ (by decide), t1, gr_135_2 hs, Option.bind_some, ai_143 hs (by omega), Option.bind_some, jk, gr_135_3 hs, Option.bind_some, ai_144 hs (by omega), Option.bind_some, k1 _ (by decide), m1, Option.bind_some, ai_143 hs (by omega), Option.bind_some, jk, sh1 (show c < 31 by omega), nI_or, si_143 hs (by omega), Option.bind_some, ← hJ2, nI_1, nI_1, cv_135 hs, p1, b2_some, gr_135_2 hs, Option.bind_some, ai_143 hs (by omega), Option.bind_some, si_143 hs (by omega), Option.bind_some]
                simp only [hbt, hfr]
              rw [head]
              cases et : t.testBit c with
              | false =>
                rw [if_neg Bool.false_ne_true]
                rw [t3 c hcC] at et
                rw [et, Bool.false_and, Bool.false_or]
                exact nxt
              | true =>
                rw [if_pos rfl]
                rw [t3 c hcC] at et
                rw [et, Bool.true_and]
                cases ef : freeB Q k c κ with
                | false =>
                  rw [if_neg Bool.false_ne_true, Bool.false_and, Bool.false_or]
                  exact nxt
                | true =>
                  rw [if_pos rfl, Bool.true_and]
                  cases eg : fB Q K s r (c + 1) (up1 κ c (some k)) with
                  | true =>
                    rw [if_neg (show ¬ b2i true = 0 by decide), rZ_1, Bool.true_or]
                    exact ⟨J3, rfl, fun x hx => by rw [p2 x hx, kJ2 x hx], fun h => by cases h⟩
                  | false =>
                    rw [if_pos (show b2i false = 0 from rfl), Bool.false_or]
                    have q3 := p3 eg
                    have q4 : J3 143 k = nI (u ||| 2 ^ c) := by rw [q3 k (by omega), hJ2, up2_self]
                    rw [q4, clr_bit u c v2 (by omega)]
                    refine ihz g (k + 1) _ (by omega) (by omega) (fun x hx => by rw [up2_ne _ _ _ hx, p2 x hx, kJ2 x hx]) (fun j hj => ?_)
                    rw [up2_row]
                    by_cases e : j = k
                    · rw [e, up1_self, v1]
                    · rw [up1_ne _ _ e, q3 j hj, hJ2, up2_row, up1_ne _ _ e, k2 j hj]
          exact fun z g k h1 h2 => gen z g k I h1 h2 (fun _ _ => rfl) (fun _ _ => rfl)
        exact loop K mm_N 0 (by omega) (by show K < 1000000; omega)
theorem c_twice (hs : St S R) (hC : C ≤ 10) {s : Nat} (hs2 : s < 2 ^ C) {I : mkI} (hB : BSt Q K C I) : F_X4_isAnyLineTwice (some 135) (nI s) (mk S I L R n) = some (b2i (!noT Q C s), mk S I L R n) := by
  have hC10 : 2 ^ C ≤ 2 ^ 10 := Nat.pow_le_pow_right (by decide) hC
  obtain ⟨-, -, -, b4⟩ := id hB
  have gen : ∀ (z g c : Nat), c + z = 10 → z < g → F_X4_isAnyLineTwice_2 g (some 135) (nI s) (nI c) (mk S I L R n) = some (b2i ((List.range' c z).any fun c => s.testBit c && !noC Q C s c), mk S I L R n) := by
    intro z
    induction z with
    | zero =>
      intro g c hc hg
      obtain ⟨g, rfl⟩ : ∃ y, g = y + 1 := ⟨g - 1, by omega⟩
      simp only [F_X4_isAnyLineTwice_2]
      rw [if_pos (show (10 : Int32) ≤ nI c from le_li 10 (by omega) (by omega)), rZ_0]
      rfl
    | succ z ih =>
      intro g c hc hg
      obtain ⟨g, rfl⟩ : ∃ y, g = y + 1 := ⟨g - 1, by omega⟩
      have nxt := ih g (c + 1) (by omega) (by omega)
      rw [List.range'_succ, List.any_cons]
      have hbt : (((nI s >>> (nI c &&& 31)) &&& 1) = 1) = (s.testBit c = true) := by
        have := hasB_nI (v := s) (l := c) (by omega)
        unfold hasB at this
        rw [← this, decide_eq_true_eq]
      simp only [F_X4_isAnyLineTwice_2, F_X4_isAnyLineTwice_30, hbt]
      rw [if_neg (show ¬ (10 : Int32) ≤ nI c from ge_li 10 (by omega) (by decide)), nI_1]
      cases hb : s.testBit c with
      | false =>
        rw [if_neg Bool.false_ne_true, Bool.false_and, Bool.false_or]
        exact nxt
      | true =>
        have hcC : c < C := by
          refine Nat.lt_of_not_le (fun q => ?_)
          rw [bit_lo hs2 c q] at hb; cases hb
        obtain ⟨u9, u1, u2, u3⟩ := b4 c hcC
        have hcl : (nI u9 &&& nI s = 0) ↔ noC Q C s c = true := by
          have h1 : u9 &&& s ≤ u9 := Nat.and_le_left
          rw [nI_and]
          refine (nI_eq (b := 0) (by omega) (by omega)).trans ((and_bits u9 s).trans ?_)
          rw [noC_iff]
          constructor
          · intro h d hd hne hbd ho
            cases z : qS Q c d with
            | false => rfl
            | true =>
              have hu : u9.testBit d = true := by
                rw [u3 d hd]; unfold clP; rw [decide_eq_true hne, ho, z]; rfl
              rw [h d hu] at hbd; cases hbd
          · intro h d hd
            have hdC : d < C := by
              refine Nat.lt_of_not_le (fun q => ?_)
              rw [bit_lo u2 d q] at hd; cases hd
            rw [u3 d hdC] at hd
            unfold clP at hd
            simp only [Bool.and_eq_true, decide_eq_true_eq] at hd
            cases z : s.testBit d with
            | false => rfl
            | true => have := h d hdC hd.1 z hd.2.1; rw [this] at hd; exact absurd hd.2.2 (by decide)
        rw [if_pos rfl, gr_135_4 hs, Option.bind_some, ai_145 hs (by omega), Option.bind_some, u1, Bool.true_and]
        by_cases en : noC Q C s c = true
        · rw [if_pos (hcl.mpr en), en, Bool.not_true, Bool.false_or]
          exact nxt
        · have en' : noC Q C s c = false := by simpa using en
          rw [if_neg (fun q => en (hcl.mp q)), en', Bool.not_false, Bool.true_or, rZ_1]
  unfold F_X4_isAnyLineTwice noT
  rw [Bool.not_not]
  exact gen 10 mm_N 0 (by omega) (by decide)
/-- whether a set fits, as the class asks -/
def pSet (Q : BQ) (K C v s : Nat) : Bool := decide (nI s &&& (nI v ^^^ (-1)) = 0) && (noT Q C s && fB Q K s C 0 (fun _ => none))
theorem c_seekL (hs : St S R) (hK : K ≤ 3) (hC : C ≤ 10) {v : Nat} : ∀ (r g s : Nat) (a : Nat × Nat) (I : mkI), s + r = 2 ^ C → r < g → 1 ≤ s → BSt Q K C I → I 135 6 = nI a.1 → I 135 7 = nI a.2 → a.1 ≤ 10 → ∃ I', F_X4_seek_79 g (some 135) (nI C) (nI v) (nI s) (mk S I L R n) = some (mk S I' L R n) ∧ I' 135 6 = nI (cC (pSet Q K C v) r s a).1 ∧ I' 135 7 = nI (cC (pSet Q K C v) r s a).2 ∧ kF I I' := by
  have hC10 : 2 ^ C ≤ 2 ^ 10 := Nat.pow_le_pow_right (by decide) hC
  intro r
  induction r with
  | zero =>
    intro g s a I hs2 hg h1 hB h6 h7 ha
    obtain ⟨g, rfl⟩ : ∃ y, g = y + 1 := ⟨g - 1, by omega⟩
    refine ⟨I, ?_, h6, h7, kF.rf⟩
    simp only [F_X4_seek_79]
    rw [sh1 (show C < 31 by omega), if_pos (nI_le (by omega) (by omega))]
  | succ r ih =>
    intro g s a I hs2 hg h1 hB h6 h7 ha
    obtain ⟨g, rfl⟩ : ∃ y, g = y + 1 := ⟨g - 1, by omega⟩
    have hs1024 : s < 1024 := by omega
    have hp10 := pcn_10 s hs1024
    rw [cC]
    have stay : ∀ J : mkI, kF I J → BSt Q K C J → J 135 6 = nI a.1 → J 135 7 = nI a.2 → ∃ I', F_X4_seek_79 g (some 135) (nI C) (nI v) (nI (s + 1)) (mk S J L R n) = some (mk S I' L R n) ∧ I' 135 6 = nI (cC (pSet Q K C v) r (s + 1) a).1 ∧ I' 135 7 = nI (cC (pSet Q K C v) r (s + 1) a).2 ∧ kF I I' := fun J kJ hBJ j6 j7 => by
      obtain ⟨I', z1, z2, z3, z4⟩ := ih g (s + 1) a J (by omega) (by omega) (by omega) hBJ j6 j7 ha
      exact ⟨I', z1, z2, z3, kJ.tr z4⟩
    simp only [F_X4_seek_79, F_X4_seek_150]
    rw [sh1 (show C < 31 by omega), if_neg (nI_ge (by omega) (by omega)), c_bitCount hs1024, b2_some, gi_135_6 hs, Option.bind_some, h6, nI_1]
    unfold pSet
    by_cases e1 : nI s &&& (nI v ^^^ (-1)) = 0
    · rw [if_pos e1, decide_eq_true e1]
      by_cases e2 : a.1 < pcn s
      · rw [if_neg (nI_ge e2 (by omega)), cv_135 hs, c_twice hs hC (show s < 2 ^ C by omega) hB, b2_some]
        by_cases e4 : noT Q C s = true
        · rw [e4, Bool.not_true, Bool.true_and, if_pos (show b2i false = 0 from rfl), gr_135_2 hs, Option.bind_some, c_fill (S_143 hs) (by decide) (by decide), Option.bind_some]
          obtain ⟨J, hJ⟩ : ∃ J, J = up1 I 143 (fun j => if 0 ≤ j ∧ j < 3 then (0 : Int32) else I 143 j) := ⟨_, rfl⟩
          have kJ : ∀ x, x ≠ 143 → J x = I x := fun x hx => by rw [hJ, up1_ne _ _ hx]
          have hBJ : BSt Q K C J := hB.k (by rw [kJ _ (by decide)]) (kJ _ (by decide)) (kJ _ (by decide)) (kJ _ (by decide))
          obtain ⟨J2, q1, q2, q3⟩ := c_fits (Q := Q) (K := K) (C := C) (L := L) (n := n) hs hK hC (show s < 2 ^ C by omega) C 64 0 (fun _ => none) J (by omega) (by omega) hBJ (fun k hk => ⟨0, by rw [hJ, up1_self, if_pos ⟨Nat.zero_le _, hk⟩]; rfl, by decide, fun d hd => absurd hd (Nat.not_lt_zero _)⟩)
          have kJ2 : ∀ x, x ≠ 143 → J2 x = I x := fun x hx => by rw [q2 x hx, kJ x hx]
          have kfJ2 : kF I J2 := fun x hx => kJ2 x (by show x ≠ 143; omega)
          have hBJ2 : BSt Q K C J2 := hB.k (by rw [kJ2 _ (by decide)]) (kJ2 _ (by decide)) (kJ2 _ (by decide)) (kJ2 _ (by decide))
          rw [← hJ, cv_135 hs, show (0 : Int32) = nI 0 from rfl, q1, b2_some]
          by_cases e3 : fB Q K s C 0 (fun _ => none) = true
          · obtain ⟨J3, hJ3⟩ : ∃ J3, J3 = up2 (up2 J2 135 6 (nI (pcn s))) 135 7 (nI s) := ⟨_, rfl⟩
            have kJ3 : ∀ x, x ≠ 135 → J3 x = J2 x := fun x hx => by rw [hJ3, up2_ne _ _ _ hx, up2_ne _ _ _ hx]
            obtain ⟨I', z1, z2, z3, z4⟩ := ih g (s + 1) (pcn s, s) J3 (by omega) (by omega) (by omega) (hBJ2.k (by rw [hJ3, up2_row, up1_ne _ _ (by decide), up2_row, up1_ne _ _ (by decide)]) (kJ3 _ (by decide)) (kJ3 _ (by decide)) (kJ3 _ (by decide))) (by rw [hJ3, up2_row, up1_ne _ _ (by decide), up2_self]) (by rw [hJ3, up2_self]) hp10
            refine ⟨I', ?_, ?_, ?_, kfJ2.tr ((show kF J2 J3 from fun x hx => kJ3 x (by show x ≠ 135; omega)).tr z4)⟩
            · rw [e3, if_neg (show ¬ b2i true = nI 0 by decide), c_bitCount hs1024, b2_some, pi_135_6 hs, Option.bind_some, pi_135_7 hs, Option.bind_some, ← hJ3]
              exact z1
            · rw [e3]
              rw [if_pos (show a.1 < pcn s ∧ (true && true) = true from ⟨e2, rfl⟩)]
              exact z2
            · rw [e3]
              rw [if_pos (show a.1 < pcn s ∧ (true && true) = true from ⟨e2, rfl⟩)]
              exact z3
          · have e3' : fB Q K s C 0 (fun _ => none) = false := by simpa using e3
            rw [e3', Bool.and_false, if_pos (show b2i false = nI 0 from rfl), if_neg (show ¬ (a.1 < pcn s ∧ false = true) from fun q => Bool.false_ne_true q.2)]
            exact stay J2 kfJ2 hBJ2 (by rw [kJ2 _ (by decide)]; exact h6) (by rw [kJ2 _ (by decide)]; exact h7)
        · have e4' : noT Q C s = false := by simpa using e4
          rw [e4', Bool.not_false, if_neg (show ¬ b2i true = 0 by decide), Bool.false_and, Bool.and_false, if_neg (show ¬ (a.1 < pcn s ∧ false = true) from fun q => Bool.false_ne_true q.2)]
          exact stay I kF.rf hB h6 h7
      · rw [if_pos (nI_le (by omega) (by omega)), if_neg (fun q => e2 q.1)]
        exact stay I kF.rf hB h6 h7
    · rw [if_neg e1, decide_eq_false e1, Bool.false_and, if_neg (show ¬ (a.1 < pcn s ∧ false = true) from fun q => Bool.false_ne_true q.2)]
      exact stay I kF.rf hB h6 h7
end CSk
