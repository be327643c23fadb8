/-! free lines and cords, by times -/
theorem busyT_iff {C : Nat} {g : Nat → Int32} {t l : Int32} (hC : C ≤ 10) : busyT C g t l = -1 ↔ ∀ d, d < C → g (15 + 7 * d) = 1 → t < g (13 + 7 * d) + g (14 + 7 * d) → g (11 + 7 * d) ≠ l ∧ g (16 + 7 * d) ≠ l := by
  unfold busyT
  rw [fnd_none (by omega)]
  constructor
  · intro h d hd h1 h2
    have := h d hd
    simp only [h1, h2, decide_true, Bool.true_and, Bool.or_eq_false_iff, decide_eq_false_iff_not] at this
    exact this
  · intro h d hd
    by_cases h1 : g (15 + 7 * d) = 1
    · by_cases h2 : t < g (13 + 7 * d) + g (14 + 7 * d)
      · have := h d hd h1 h2; simp [this.1, this.2]
      · simp [h2]
    · simp [h1]
theorem onT_iff {C : Nat} {g : Nat → Int32} {t k : Int32} (hC : C ≤ 10) : onT C g t k = -1 ↔ ∀ d, d < C → g (15 + 7 * d) = 1 → t < g (13 + 7 * d) + g (14 + 7 * d) → g (17 + 7 * d) ≠ k := by
  unfold onT
  rw [fnd_none (by omega)]
  constructor
  · intro h d hd h1 h2
    have := h d hd
    simp only [h1, h2, decide_true, Bool.true_and, decide_eq_false_iff_not] at this
    exact this
  · intro h d hd
    by_cases h1 : g (15 + 7 * d) = 1
    · by_cases h2 : t < g (13 + 7 * d) + g (14 + 7 * d)
      · have := h d hd h1 h2; simp [this]
      · simp [h2]
    · simp [h1]
theorem BV.lt {P : PL} {C : Nat} {g : Nat → Int32} {F T A D : Nat → Nat} (hV : BV P C g F T A D) {d t : Nat} (hd : d < C) (ht : t ≤ 300000) : nI t < g (13 + 7 * d) + g (14 + 7 * d) ↔ t < A d + D d := by
  obtain ⟨-, -, -, ⟨e3, hA⟩, e4, -, hD⟩ := hV.2.2 d hd
  rw [e3, e4, nI_add]
  exact nI_ltI (by omega) (by omega)
/-- from t0 on: when lines and cords are free, in a course's rows -/
def CoR (W nC C : Nat) (g : Nat → Int32) (t0 : Nat) (X Y : Nat → Int32) : Prop :=
  (∀ l, l < W → ∃ x : Nat, X l = nI x ∧ x ≤ 1000000 ∧ ∀ t, t0 ≤ t → t ≤ 300000 → (x ≤ t ↔ hasB (g 2) (nI l) = false ∧ busyT C g (nI t) (nI l) = -1)) ∧
  ∀ k, k < nC → ∃ x : Nat, Y k = nI x ∧ x ≤ 1000000 ∧ ∀ t, t0 ≤ t → t ≤ 300000 → (x ≤ t ↔ onT C g (nI t) (nI k) = -1)
theorem CoR.le {W nC C : Nat} {g : Nat → Int32} {t0 t1 : Nat} {X Y : Nat → Int32} (h : CoR W nC C g t0 X Y) (ht : t0 ≤ t1) : CoR W nC C g t1 X Y := by
  refine ⟨fun l hl => ?_, fun k hk => ?_⟩
  · obtain ⟨x, h1, h2, h3⟩ := h.1 l hl
    exact ⟨x, h1, h2, fun t q1 q2 => h3 t (by omega) q2⟩
  · obtain ⟨x, h1, h2, h3⟩ := h.2 k hk
    exact ⟨x, h1, h2, fun t q1 q2 => h3 t (by omega) q2⟩
theorem tkV_cord {P : PL} (hP : PlOK P) {C : Nat} {g : Nat → Int32} {t0 t : Nat} {X Y : Nat → Int32} (h : CoR (pW P) (pC P) C g t0 X Y) (ht : t0 ≤ t) (ht2 : t ≤ 300000) {a e : Nat} (ha : a < pW P) (he : e < pW P) : tkV P X Y a e (nI t) = cordT P C g (nI t) (nI a) (nI e) := by
  have w2 := hP.2.1
  have w3 := hP.2.2.1
  obtain ⟨x, x1, x2, x3⟩ := h.1 a ha
  obtain ⟨y, y1, y2, y3⟩ := h.1 e he
  have x3 := x3 t ht ht2
  have y3 := y3 t ht ht2
  have nx : (¬ nI t < X a) ↔ x ≤ t := by rw [x1, nI_ltI (by omega) (by omega)]; omega
  have ny : (¬ nI t < X e) ↔ y ≤ t := by rw [y1, nI_ltI (by omega) (by omega)]; omega
  have hf : ∀ k, 0 ≤ k → k < 0 + pC P → tkP P Y a e (nI t) k = (hasB (pRe P k) (nI a) && hasB (pRe P k) (nI e) && decide (onT C g (nI t) (nI k) = -1)) := by
    intro k _ hk
    obtain ⟨z, z1, z2, z3⟩ := h.2 k (by omega)
    have z3 := z3 t ht ht2
    have nz : (¬ nI t < Y k) ↔ z ≤ t := by rw [z1, nI_ltI (by omega) (by omega)]; omega
    unfold tkP
    rw [Bool.and_comm]
    congr 1
    exact decide_eq_decide.mpr (nz.trans z3)
  unfold tkV cordT freeT
  rw [fnd_congr _ _ hf]
  have hsym : (nI a = nI e) = (nI e = nI a) := propext ⟨fun q => q.symm, fun q => q.symm⟩
  by_cases q : nI a = nI e
  · rw [if_pos q, if_pos q.symm]
  · rw [if_neg q, if_neg (show ¬ nI e = nI a from fun w => q w.symm)]
    have dx : decide (¬ nI t < X a) = decide (x ≤ t) := decide_eq_decide.mpr nx
    have dy : decide (¬ nI t < X e) = decide (y ≤ t) := decide_eq_decide.mpr ny
    rw [dx, dy]
    by_cases p1 : hasB (g 2) (nI a) = true
    · have : ¬ x ≤ t := fun w => by have := (x3.mp w).1; rw [p1] at this; cases this
      rw [if_pos p1, if_pos (by simp; omega)]
    · have p1' : hasB (g 2) (nI a) = false := by simpa using p1
      rw [if_neg p1]
      by_cases p2 : hasB (g 2) (nI e) = true
      · have : ¬ y ≤ t := fun w => by have := (y3.mp w).1; rw [p2] at this; cases this
        rw [if_pos p2, if_pos (by simp; omega)]
      · have p2' : hasB (g 2) (nI e) = false := by simpa using p2
        rw [if_neg p2]
        by_cases p3 : busyT C g (nI t) (nI a) = -1
        · have ex : x ≤ t := x3.mpr ⟨p1', p3⟩
          rw [if_pos p3]
          by_cases p4 : busyT C g (nI t) (nI e) = -1
          · have ey : y ≤ t := y3.mpr ⟨p2', p4⟩
            rw [if_pos p4, if_neg (by simp [ex, ey])]
          · have : ¬ y ≤ t := fun w => p4 (y3.mp w).2
            rw [if_neg p4, if_pos (by simp; omega)]
        · have : ¬ x ≤ t := fun w => p3 (x3.mp w).2
          rw [if_neg p3, if_pos (by simp; omega)]
/-- the rows behind a call's beginning -/
def hldX (X : Nat → Int32) (a e : Nat) (v t : Int32) : Nat → Int32 := if v = -1 then X else up1 (up1 X a t) e t
def hldY (Y : Nat → Int32) (v t : Int32) : Nat → Int32 := if v = -1 then Y else up1 Y v.toNatClampNeg t
theorem CoR.step {P : PL} (hP : PlOK P) {C : Nat} {g : Nat → Int32} {F T A D : Nat → Nat} (hV : BV P C g F T A D) {frc : Nat → Int32} (hf : frcOK P frc) {c e t0 : Nat} {X Y : Nat → Int32} (hc : c < C) (h0 : g (15 + 7 * c) = 0) (h : CoR (pW P) (pC P) C g t0 X Y) (ht : t0 ≤ A c) (he : e < pW P) (hcm : cameT P frc g c = nI e) :
    CoR (pW P) (pC P) C (gStep P frc C g c) (A c) (hldX X (F c) e (gCord P frc C g c) (nI (A c + D c))) (hldY Y (gCord P frc C g c) (nI (A c + D c))) := by
  have w2 := hP.2.1
  have w3 := hP.2.2.1
  have hC := hV.1
  have hV' := hV.step hP hf hc
  obtain ⟨s1, s2, s3⟩ := gStep_st hP hV hf hc
  have h1 := h.le ht
  obtain ⟨⟨e1, ha⟩, -, -, ⟨e3, hA⟩, e4, hD1, hD2⟩ := hV.2.2 c hc
  have ko : ∀ d, d ≠ c → gStep P frc C g c (15 + 7 * d) = g (15 + 7 * d) ∧ gStep P frc C g c (16 + 7 * d) = g (16 + 7 * d) ∧ gStep P frc C g c (17 + 7 * d) = g (17 + 7 * d) := fun d q => ⟨gStep_other hP hV hf hc (by omega) (by omega) (by omega) (by omega), gStep_other hP hV hf hc (by omega) (by omega) (by omega) (by omega), gStep_other hP hV hf hc (by omega) (by omega) (by omega) (by omega)⟩
  have k11 : ∀ d, gStep P frc C g c (11 + 7 * d) = g (11 + 7 * d) := fun d => gStep_other hP hV hf hc (by omega) (by omega) (by omega) (by omega)
  have k2 : gStep P frc C g c 2 = g 2 := gStep_other hP hV hf hc (by omega) (by omega) (by omega) (by omega)
  have eC : gCord P frc C g c = cordT P C g (nI (A c)) (nI (F c)) (nI e) := by unfold gCord; rw [e3, e1, hcm]
  have n01 : ¬ (0 : Int32) = 1 := by decide
  -- busy lines behind the step
  have bz : ∀ t l, A c ≤ t → t ≤ 300000 → (busyT C (gStep P frc C g c) (nI t) l = -1 ↔ busyT C g (nI t) l = -1 ∧ (¬ gCord P frc C g c = -1 → t < A c + D c → nI (F c) ≠ l ∧ nI e ≠ l)) := by
    intro t l q1 q2
    rw [busyT_iff hC, busyT_iff hC]
    constructor
    · intro w
      refine ⟨fun d hd r1 r2 => ?_, fun r1 r2 => ?_⟩
      · have hdc : d ≠ c := fun z => by rw [z, h0] at r1; exact n01 r1
        have := w d hd (by rw [(ko d hdc).1]; exact r1) ((hV'.lt hd q2).mpr ((hV.lt hd q2).mp r2))
        rwa [k11, (ko d hdc).2.1] at this
      · have := w c hc (by rw [s1, if_neg r1]) ((hV'.lt hc q2).mpr r2)
        rwa [k11, s2, if_neg r1, e1, hcm] at this
    · rintro ⟨w1, w2⟩ d hd r1 r2
      rw [k11]
      by_cases hdc : d = c
      · subst hdc
        have r3 : ¬ gCord P frc C g d = -1 := fun z => by rw [s1, if_pos z] at r1; revert r1; decide
        rw [s2, if_neg r3, e1, hcm]
        exact w2 r3 ((hV'.lt hd q2).mp r2)
      · obtain ⟨o1, o2, o3⟩ := ko d hdc
        rw [o1] at r1
        rw [o2]
        exact w1 d hd r1 ((hV.lt hd q2).mpr ((hV'.lt hd q2).mp r2))
  have oz : ∀ t k, A c ≤ t → t ≤ 300000 → (onT C (gStep P frc C g c) (nI t) k = -1 ↔ onT C g (nI t) k = -1 ∧ (¬ gCord P frc C g c = -1 → t < A c + D c → gCord P frc C g c ≠ k)) := by
    intro t l q1 q2
    rw [onT_iff hC, onT_iff hC]
    constructor
    · intro w
      refine ⟨fun d hd r1 r2 => ?_, fun r1 r2 => ?_⟩
      · have hdc : d ≠ c := fun z => by rw [z, h0] at r1; exact n01 r1
        have := w d hd (by rw [(ko d hdc).1]; exact r1) ((hV'.lt hd q2).mpr ((hV.lt hd q2).mp r2))
        rwa [(ko d hdc).2.2] at this
      · have := w c hc (by rw [s1, if_neg r1]) ((hV'.lt hc q2).mpr r2)
        rwa [s3, if_neg r1] at this
    · rintro ⟨w1, w2⟩ d hd r1 r2
      by_cases hdc : d = c
      · subst hdc
        have r3 : ¬ gCord P frc C g d = -1 := fun z => by rw [s1, if_pos z] at r1; revert r1; decide
        rw [s3, if_neg r3]
        exact w2 r3 ((hV'.lt hd q2).mp r2)
      · obtain ⟨o1, o2, o3⟩ := ko d hdc
        rw [o1] at r1
        rw [o3]
        exact w1 d hd r1 ((hV.lt hd q2).mpr ((hV'.lt hd q2).mp r2))
  by_cases hv : gCord P frc C g c = -1
  · unfold hldX hldY
    rw [if_pos hv, if_pos hv]
    refine ⟨fun l hl => ?_, fun k hk => ?_⟩
    · obtain ⟨x, x1, x2, x3⟩ := h1.1 l hl
      refine ⟨x, x1, x2, fun t q1 q2 => ?_⟩
      rw [k2, bz t _ q1 q2, x3 t q1 q2]
      simp only [hv, not_true_eq_false, false_implies, and_true]
    · obtain ⟨x, x1, x2, x3⟩ := h1.2 k hk
      refine ⟨x, x1, x2, fun t q1 q2 => ?_⟩
      rw [oz t _ q1 q2, x3 t q1 q2]
      simp only [hv, not_true_eq_false, false_implies, and_true]
  · have hv' := hv
    rw [eC] at hv'
    obtain ⟨o1, ⟨o2, o2'⟩, o3, k, hk, o4, -, o6⟩ := gCord_ok hP hC hv'
    rw [← eC] at o4
    have hbF : busyT C g (nI (A c)) (nI (F c)) = -1 := (busyT_iff hC).mpr (fun d hd r1 r2 => (o3 d hd r1 r2).1)
    have hbE : busyT C g (nI (A c)) (nI e) = -1 := (busyT_iff hC).mpr (fun d hd r1 r2 => (o3 d hd r1 r2).2)
    have hoK : onT C g (nI (A c)) (nI k) = -1 := (onT_iff hC).mpr (fun d hd r1 r2 => o6 d hd r1 r2)
    have up : ∀ t l, A c ≤ t → t ≤ 300000 → busyT C g (nI (A c)) l = -1 → busyT C g (nI t) l = -1 := fun t l q1 q2 w => (busyT_iff hC).mpr (fun d hd r1 r2 => (busyT_iff hC).mp w d hd r1 ((hV.lt hd (by omega)).mpr (by have := (hV.lt hd q2).mp r2; omega)))
    have upo : ∀ t l, A c ≤ t → t ≤ 300000 → onT C g (nI (A c)) l = -1 → onT C g (nI t) l = -1 := fun t l q1 q2 w => (onT_iff hC).mpr (fun d hd r1 r2 => (onT_iff hC).mp w d hd r1 ((hV.lt hd (by omega)).mpr (by have := (hV.lt hd q2).mp r2; omega)))
    unfold hldX hldY
    rw [if_neg hv, if_neg hv]
    refine ⟨fun l hl => ?_, fun j hj => ?_⟩
    · by_cases hl2 : l = F c ∨ l = e
      · refine ⟨A c + D c, ?_, by omega, fun t q1 q2 => ?_⟩
        · rcases hl2 with rfl | rfl
          · by_cases z : F c = e
            · rw [z, up1_self]
            · rw [up1_ne _ _ z, up1_self]
          · rw [up1_self]
        · rw [k2, bz t _ q1 q2]
          have hd : hasB (g 2) (nI l) = false := by rcases hl2 with rfl | rfl; exact o2; exact o2'
          have hb : busyT C g (nI t) (nI l) = -1 := by rcases hl2 with rfl | rfl; exact up t _ q1 q2 hbF; exact up t _ q1 q2 hbE
          constructor
          · intro w
            exact ⟨hd, hb, fun _ z => by omega⟩
          · rintro ⟨-, -, w⟩
            rcases Nat.lt_or_ge t (A c + D c) with z | z
            · have := w hv z
              rcases hl2 with rfl | rfl
              · exact absurd rfl this.1
              · exact absurd rfl this.2
            · exact z
      · have z1 : l ≠ F c := fun z => hl2 (.inl z)
        have z2 : l ≠ e := fun z => hl2 (.inr z)
        obtain ⟨x, x1, x2, x3⟩ := h1.1 l hl
        refine ⟨x, by rw [up1_ne _ _ z2, up1_ne _ _ z1]; exact x1, x2, fun t q1 q2 => ?_⟩
        rw [k2, bz t _ q1 q2, x3 t q1 q2]
        have y1 : nI (F c) ≠ nI l := fun z => z1 ((nI_eq (by omega) (by omega)).mp z).symm
        have y2 : nI e ≠ nI l := fun z => z2 ((nI_eq (by omega) (by omega)).mp z).symm
        constructor
        · rintro ⟨w1, w2⟩; exact ⟨w1, w2, fun _ _ => ⟨y1, y2⟩⟩
        · rintro ⟨w1, w2, -⟩; exact ⟨w1, w2⟩
    · rw [o4, nI_clamp (by omega)]
      by_cases hj2 : j = k
      · subst hj2
        refine ⟨A c + D c, by rw [up1_self], by omega, fun t q1 q2 => ?_⟩
        rw [oz t _ q1 q2]
        constructor
        · intro w
          exact ⟨upo t _ q1 q2 hoK, fun _ z => by omega⟩
        · rintro ⟨-, w⟩
          rcases Nat.lt_or_ge t (A c + D c) with z | z
          · exact absurd o4 (w hv z)
          · exact z
      · obtain ⟨x, x1, x2, x3⟩ := h1.2 j hj
        refine ⟨x, by rw [up1_ne _ _ hj2]; exact x1, x2, fun t q1 q2 => ?_⟩
        rw [oz t _ q1 q2, x3 t q1 q2, o4]
        have y1 : nI k ≠ nI j := fun z => hj2 ((nI_eq (by omega) (by omega)).mp z).symm
        constructor
        · intro w; exact ⟨w, fun _ _ => y1⟩
        · rintro ⟨w, -⟩; exact w
