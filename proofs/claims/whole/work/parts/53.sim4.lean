/-! what becomes of a call -/
theorem gStep_st {P : PL} (hP : PlOK P) {C : Nat} {g : Nat → Int32} {F T A D : Nat → Nat} (hV : BV P C g F T A D) {frc : Nat → Int32} (hf : frcOK P frc) {c : Nat} (hc : c < C) : gStep P frc C g c (15 + 7 * c) = (if gCord P frc C g c = -1 then 3 else 1) ∧ gStep P frc C g c (16 + 7 * c) = (if gCord P frc C g c = -1 then g (16 + 7 * c) else cameT P frc g c) ∧ gStep P frc C g c (17 + 7 * c) = (if gCord P frc C g c = -1 then g (17 + 7 * c) else gCord P frc C g c) := by
  obtain ⟨b, hb, eb⟩ := cameT_lt hP hV hf hc
  have w2 := hP.2.1
  obtain ⟨⟨e1, ha⟩, -⟩ := hV.2.2 c hc
  unfold gStep
  rw [e1, eb]
  generalize gCord P frc C g c = cd
  unfold aPutT
  rw [nI_clamp (by omega), nI_clamp (by omega)]
  by_cases h : cd = -1
  · rw [if_pos h, if_pos h, if_pos h, if_pos h]
    exact ⟨up1_self _ _ _, up1_ne _ _ (by omega), up1_ne _ _ (by omega)⟩
  · rw [if_neg h, if_neg h, if_neg h, if_neg h]
    split
    · refine ⟨?_, ?_, ?_⟩
      · rw [up1_ne _ _ (by omega), up1_ne _ _ (by omega), up1_ne _ _ (by omega), up1_ne _ _ (by omega), up1_self]
      · rw [up1_ne _ _ (by omega), up1_ne _ _ (by omega), up1_ne _ _ (by omega), up1_self]
      · rw [up1_ne _ _ (by omega), up1_ne _ _ (by omega), up1_self]
    · refine ⟨?_, ?_, ?_⟩
      · rw [up1_ne _ _ (by omega), up1_ne _ _ (by omega), up1_self]
      · rw [up1_ne _ _ (by omega), up1_self]
      · rw [up1_self]
/-- a cord that is found: lines unlike, free, open; the cord free, and it reaches both -/
theorem gCord_ok {P : PL} (hP : PlOK P) {C : Nat} {g : Nat → Int32} {t fr came : Int32} (hC : C ≤ 10) (h : ¬ cordT P C g t fr came = -1) : came ≠ fr ∧ (hasB (g 2) fr = false ∧ hasB (g 2) came = false) ∧ (∀ d, d < C → g (15 + 7 * d) = 1 → t < g (13 + 7 * d) + g (14 + 7 * d) → (g (11 + 7 * d) ≠ fr ∧ g (16 + 7 * d) ≠ fr) ∧ g (11 + 7 * d) ≠ came ∧ g (16 + 7 * d) ≠ came) ∧ ∃ k, k < pC P ∧ cordT P C g t fr came = nI k ∧ (hasB (pRe P k) fr = true ∧ hasB (pRe P k) came = true) ∧ ∀ d, d < C → g (15 + 7 * d) = 1 → t < g (13 + 7 * d) + g (14 + 7 * d) → g (17 + 7 * d) ≠ nI k := by
  unfold cordT at h ⊢
  by_cases h1 : came = fr
  · rw [if_pos h1] at h; exact absurd rfl h
  rw [if_neg h1] at h ⊢
  by_cases h2 : hasB (g 2) fr = true
  · rw [if_pos h2] at h; exact absurd rfl h
  rw [if_neg h2] at h ⊢
  by_cases h3 : hasB (g 2) came = true
  · rw [if_pos h3] at h; exact absurd rfl h
  rw [if_neg h3] at h ⊢
  by_cases h4 : busyT C g t fr = -1
  rotate_left
  · rw [if_neg h4] at h; exact absurd rfl h
  rw [if_pos h4] at h ⊢
  by_cases h5 : busyT C g t came = -1
  rotate_left
  · rw [if_neg h5] at h; exact absurd rfl h
  rw [if_pos h5] at h ⊢
  have w3 := hP.2.2.1
  unfold busyT at h4 h5
  rw [fnd_none (by omega)] at h4 h5
  refine ⟨h1, ⟨by simpa using h2, by simpa using h3⟩, fun d hd q1 q2 => ?_, ?_⟩
  · have a4 := h4 d hd
    have a5 := h5 d hd
    simp only [q1, q2, decide_true, Bool.true_and, Bool.or_eq_false_iff, decide_eq_false_iff_not] at a4 a5
    exact ⟨⟨a4.1, a4.2⟩, a5.1, a5.2⟩
  · unfold freeT at h ⊢
    rcases fnd_cases (fun k => hasB (pRe P k) fr && hasB (pRe P k) came && decide (onT C g t (nI k) = -1)) (pC P) 0 with ⟨q1, -⟩ | ⟨k, -, q2, q3, q4, -⟩
    · exact absurd q1 h
    · simp only [Bool.and_eq_true, decide_eq_true_eq] at q3
      refine ⟨k, by omega, q4, q3.1, fun d hd r1 r2 r3 => ?_⟩
      have := q3.2
      unfold onT at this
      rw [fnd_none (by omega)] at this
      have := this d hd
      simp [r1, r2, r3] at this
theorem gLost_mem {P : PL} {frc : Nat → Int32} {C d : Nat} : ∀ (l : List Nat) (g : Nat → Int32), d ∈ gLost P frc C l g → d ∈ l
  | [], _, h => h
  | c :: l, g, h => by
    simp only [gLost] at h
    split at h
    · rcases List.mem_cons.mp h with rfl | h
      · exact List.mem_cons_self
      · exact List.mem_cons_of_mem _ (gLost_mem l _ h)
    · exact List.mem_cons_of_mem _ (gLost_mem l _ h)
/-- a call that has had its minute: lost, or on with lines and cord -/
theorem gRun_at {P : PL} (hP : PlOK P) {C : Nat} {F T A D : Nat → Nat} {frc : Nat → Int32} (hf : frcOK P frc) : ∀ (l : List Nat) (g : Nat → Int32) (d : Nat), BV P C g F T A D → (∀ c ∈ l, c < C) → l.Nodup → d ∈ l → (d ∈ gLost P frc C l g ∧ gRun P frc C l g (15 + 7 * d) = 3 ∧ gRun P frc C l g (16 + 7 * d) = g (16 + 7 * d) ∧ gRun P frc C l g (17 + 7 * d) = g (17 + 7 * d)) ∨ (d ∉ gLost P frc C l g ∧ gRun P frc C l g (15 + 7 * d) = 1 ∧ (∃ b, b < pW P ∧ b ≠ F d ∧ gRun P frc C l g (16 + 7 * d) = nI b) ∧ ∃ k, k < pC P ∧ gRun P frc C l g (17 + 7 * d) = nI k)
  | [], _, _, _, _, _, h => by cases h
  | c :: l, g, d, hV, hl, hn, hd => by
    have hc := hl c List.mem_cons_self
    have hl' : ∀ c ∈ l, c < C := fun e he => hl e (List.mem_cons_of_mem _ he)
    rw [List.nodup_cons] at hn
    have hV' := hV.step hP hf hc
    have hC := hV.1
    by_cases e : d = c
    · subst e
      have k := fun j (q : j = 15 + 7 * d ∨ j = 16 + 7 * d ∨ j = 17 + 7 * d) => gRun_other (j := j) hP hf (by omega) l _ hV' hl' (fun e he => by have : e ≠ d := fun w => hn.1 (w ▸ he); omega)
      obtain ⟨s1, s2, s3⟩ := gStep_st hP hV hf hc
      simp only [gRun, gLost]
      rw [k _ (.inl rfl), k _ (.inr (.inl rfl)), k _ (.inr (.inr rfl)), s1, s2, s3]
      by_cases h : gCord P frc C g d = -1
      · simp only [h, if_true]
        exact .inl ⟨List.mem_cons_self, by simp⟩
      · simp only [h, if_false]
        obtain ⟨b, hb, eb⟩ := cameT_lt hP hV hf hc
        obtain ⟨o1, -, -, kk, hk1, hk2, -⟩ := gCord_ok hP hC h
        refine .inr ⟨fun w => hn.1 (gLost_mem _ _ w), by simp, ⟨b, hb, fun w => o1 ?_, eb⟩, kk, hk1, hk2⟩
        rw [eb, (hV.2.2 d hc).1.1, w]
    · have hd' : d ∈ l := (List.mem_cons.mp hd).resolve_left e
      have ih := gRun_at hP hf l (gStep P frc C g c) d hV' hl' hn.2 hd'
      rw [gStep_other hP hV hf hc (j := 16 + 7 * d) (by omega) (by omega) (by omega) (by omega), gStep_other hP hV hf hc (j := 17 + 7 * d) (by omega) (by omega) (by omega) (by omega)] at ih
      simp only [gRun, gLost]
      split
      · simp only [List.mem_cons, e, false_or]; exact ih
      · exact ih
/-- calls on at a minute or later have lines and cords of their own -/
def Dj (C : Nat) (g : Nat → Int32) (A D : Nat → Nat) (e : Nat) : Prop := ∀ c d, c < C → d < C → c ≠ d → g (15 + 7 * c) = 1 → g (15 + 7 * d) = 1 → e ≤ A c + D c → e ≤ A d + D d → (g (11 + 7 * c) ≠ g (11 + 7 * d) ∧ g (11 + 7 * c) ≠ g (16 + 7 * d) ∧ g (16 + 7 * c) ≠ g (11 + 7 * d) ∧ g (16 + 7 * c) ≠ g (16 + 7 * d)) ∧ g (17 + 7 * c) ≠ g (17 + 7 * d)
theorem Dj.le {C : Nat} {g : Nat → Int32} {A D : Nat → Nat} {e e' : Nat} (h : Dj C g A D e) (he : e ≤ e') : Dj C g A D e' := fun c d h1 h2 h3 h4 h5 h6 h7 => h c d h1 h2 h3 h4 h5 (by omega) (by omega)
theorem Dj.step {P : PL} (hP : PlOK P) {C : Nat} {g : Nat → Int32} {F T A D : Nat → Nat} (hV : BV P C g F T A D) {frc : Nat → Int32} (hf : frcOK P frc) {c e : Nat} (hc : c < C) (h : Dj C g A D e) (he : e ≤ A c + 1) : Dj C (gStep P frc C g c) A D (A c + 1) := by
  obtain ⟨s1, s2, s3⟩ := gStep_st hP hV hf hc
  have hC := hV.1
  obtain ⟨⟨e1, -⟩, -, -, ⟨e3, hA⟩, e4, -, hD⟩ := hV.2.2 c hc
  have k11 : ∀ d, gStep P frc C g c (11 + 7 * d) = g (11 + 7 * d) := fun d => gStep_other hP hV hf hc (by omega) (by omega) (by omega) (by omega)
  have ko : ∀ d, d ≠ c → gStep P frc C g c (15 + 7 * d) = g (15 + 7 * d) ∧ gStep P frc C g c (16 + 7 * d) = g (16 + 7 * d) ∧ gStep P frc C g c (17 + 7 * d) = g (17 + 7 * d) := fun d q => ⟨gStep_other hP hV hf hc (by omega) (by omega) (by omega) (by omega), gStep_other hP hV hf hc (by omega) (by omega) (by omega) (by omega), gStep_other hP hV hf hc (by omega) (by omega) (by omega) (by omega)⟩
  have main : ∀ d, d < C → d ≠ c → gStep P frc C g c (15 + 7 * c) = 1 → g (15 + 7 * d) = 1 → A c + 1 ≤ A d + D d → ((g (11 + 7 * d) ≠ g (11 + 7 * c) ∧ g (16 + 7 * d) ≠ g (11 + 7 * c)) ∧ g (11 + 7 * d) ≠ gStep P frc C g c (16 + 7 * c) ∧ g (16 + 7 * d) ≠ gStep P frc C g c (16 + 7 * c)) ∧ g (17 + 7 * d) ≠ gStep P frc C g c (17 + 7 * c) := by
    intro d hd hdc q1 q2 q3
    have hg : ¬ gCord P frc C g c = -1 := fun w => by rw [s1, if_pos w] at q1; revert q1; decide
    obtain ⟨-, -, o3, k, -, o5, -, o6⟩ := gCord_ok hP hC hg
    rw [s2, if_neg hg, s3, if_neg hg]
    obtain ⟨-, -, -, ⟨d3, dA⟩, d4, -, dD⟩ := hV.2.2 d hd
    have lt : g (13 + 7 * c) < g (13 + 7 * d) + g (14 + 7 * d) := by rw [e3, d3, d4, nI_add]; exact nI_lt (by omega) (by omega)
    refine ⟨o3 d hd q2 lt, ?_⟩
    have o5' : gCord P frc C g c = nI k := o5
    rw [o5']
    exact o6 d hd q2 lt
  intro x y hx hy hxy q1 q2 q3 q4
  rw [k11, k11]
  by_cases e : x = c
  · subst e
    have hyx : y ≠ x := fun w => hxy w.symm
    obtain ⟨o1, o2, o3⟩ := ko y hyx
    rw [o1] at q2
    rw [o2, o3]
    obtain ⟨⟨⟨m1, m2⟩, m3, m4⟩, m5⟩ := main y hy hyx q1 q2 q4
    exact ⟨⟨fun w => m1 w.symm, fun w => m2 w.symm, fun w => m3 w.symm, fun w => m4 w.symm⟩, fun w => m5 w.symm⟩
  · by_cases e2 : y = c
    · subst e2
      obtain ⟨o1, o2, o3⟩ := ko x hxy
      rw [o1] at q1
      rw [o2, o3]
      obtain ⟨⟨⟨m1, m2⟩, m3, m4⟩, m5⟩ := main x hx hxy q2 q1 q3
      exact ⟨⟨m1, m3, m2, m4⟩, m5⟩
    · obtain ⟨o1, o2, o3⟩ := ko x e
      obtain ⟨r1, r2, r3⟩ := ko y e2
      rw [o1] at q1; rw [r1] at q2; rw [o2, o3, r2, r3]
      exact h x y hx hy hxy q1 q2 (by omega) (by omega)
