/-! minutes: their events -/
def BV (P : PL) (C : Nat) (f : Nat → Int32) (F T A D : Nat → Nat) : Prop := C ≤ 10 ∧ f 1 = nI C ∧ ∀ c, c < C → (f (11 + 7 * c) = nI (F c) ∧ F c < pW P) ∧ (f (12 + 7 * c) = nI (T c) ∧ T c < pW P) ∧ F c ≠ T c ∧ (f (13 + 7 * c) = nI (A c) ∧ A c ≤ 200000) ∧ f (14 + 7 * c) = nI (D c) ∧ 1 ≤ D c ∧ D c ≤ 99
theorem cameT_lt {P : PL} (hP : PlOK P) {C : Nat} {g : Nat → Int32} {F T A D : Nat → Nat} (hV : BV P C g F T A D) {frc : Nat → Int32} (hf : frcOK P frc) {c : Nat} (hc : c < C) : ∃ b, b < pW P ∧ cameT P frc g c = nI b := by
  obtain ⟨hC, -, hv⟩ := hV
  obtain ⟨⟨e1, ha⟩, ⟨e2, hb⟩, -, ⟨e3, hA⟩, -⟩ := hv c hc
  unfold cameT
  by_cases t : frc c = -1
  · rw [if_pos t, e1, e2, e3]
    have w2 := hP.2.1
    by_cases hS : pS P = []
    · exact ⟨T c, hb, by unfold aComes; rw [if_pos hS]⟩
    · refine aComes_lt hP hb _ _ _ (fun v hv => ?_)
      rw [hv]
      have z : bdd 0 := ⟨by decide, by decide⟩
      exact bdd_lawv (bdd_vr (bdd_nI (by omega)) (bdd_nI (by omega)) (bdd_rem60 (by omega)) (bdd_nI (by omega)) z z) (hP.2.2.2.1.2.1 hS)
  · rw [if_neg t]
    exact (hf c (by omega)).resolve_left t
theorem aPutT_other {P : PL} {f : Nat → Int32} {c a b : Nat} {cord mi : Int32} (ha : a < 8) (hb : b < 8) {j : Nat} (h1 : j ≠ 15 + 7 * c) (h2 : j ≠ 16 + 7 * c) (h3 : j ≠ 17 + 7 * c) (h4 : j < 3 ∨ 11 ≤ j) : aPutT P f c (nI a) (nI b) cord mi j = f j := by
  unfold aPutT
  rw [nI_clamp (by omega), nI_clamp (by omega)]
  split
  · rw [up1_ne _ _ h1]
  · split
    · rw [up1_ne _ _ (by omega), up1_ne _ _ (by omega), up1_ne _ _ h3, up1_ne _ _ h2, up1_ne _ _ h1]
    · rw [up1_ne _ _ h3, up1_ne _ _ h2, up1_ne _ _ h1]
theorem gStep_other {P : PL} (hP : PlOK P) {C : Nat} {g : Nat → Int32} {F T A D : Nat → Nat} (hV : BV P C g F T A D) {frc : Nat → Int32} (hf : frcOK P frc) {c : Nat} (hc : c < C) {j : Nat} (h1 : j ≠ 15 + 7 * c) (h2 : j ≠ 16 + 7 * c) (h3 : j ≠ 17 + 7 * c) (h4 : j < 3 ∨ 11 ≤ j) : gStep P frc C g c j = g j := by
  obtain ⟨b, hb, eb⟩ := cameT_lt hP hV hf hc
  have w2 := hP.2.1
  obtain ⟨⟨e1, ha⟩, -⟩ := hV.2.2 c hc
  unfold gStep
  rw [e1, eb, aPutT_other (by omega) (by omega) h1 h2 h3 h4]
theorem BV.step {P : PL} (hP : PlOK P) {C : Nat} {g : Nat → Int32} {F T A D : Nat → Nat} (hV : BV P C g F T A D) {frc : Nat → Int32} (hf : frcOK P frc) {c : Nat} (hc : c < C) : BV P C (gStep P frc C g c) F T A D := by
  have hV0 := hV
  obtain ⟨hC, h1, hv⟩ := hV
  have k := fun j q1 q2 q3 q4 => gStep_other (j := j) hP hV0 hf hc q1 q2 q3 q4
  refine ⟨hC, by rw [k 1 (by omega) (by omega) (by omega) (by omega)]; exact h1, fun d hd => ?_⟩
  rw [k (11 + 7 * d) (by omega) (by omega) (by omega) (by omega), k (12 + 7 * d) (by omega) (by omega) (by omega) (by omega), k (13 + 7 * d) (by omega) (by omega) (by omega) (by omega), k (14 + 7 * d) (by omega) (by omega) (by omega) (by omega)]
  exact hv d hd
def gRun (P : PL) (frc : Nat → Int32) (C : Nat) : List Nat → (Nat → Int32) → Nat → Int32
  | [], g => g
  | c :: cs, g => gRun P frc C cs (gStep P frc C g c)
def gLost (P : PL) (frc : Nat → Int32) (C : Nat) : List Nat → (Nat → Int32) → List Nat
  | [], _ => []
  | c :: cs, g => if gCord P frc C g c = -1 then c :: gLost P frc C cs (gStep P frc C g c) else gLost P frc C cs (gStep P frc C g c)
theorem gRun_app {P : PL} {frc : Nat → Int32} {C : Nat} : ∀ (l r : List Nat) (g : Nat → Int32), gRun P frc C (l ++ r) g = gRun P frc C r (gRun P frc C l g)
  | [], _, _ => rfl
  | c :: l, r, g => gRun_app l r (gStep P frc C g c)
theorem gLost_app {P : PL} {frc : Nat → Int32} {C : Nat} : ∀ (l r : List Nat) (g : Nat → Int32), gLost P frc C (l ++ r) g = gLost P frc C l g ++ gLost P frc C r (gRun P frc C l g)
  | [], _, _ => rfl
  | c :: l, r, g => by
    simp only [List.cons_append, gLost, gRun]
    rw [gLost_app l r]
    split <;> rfl
theorem BV.run {P : PL} (hP : PlOK P) {C : Nat} {F T A D : Nat → Nat} {frc : Nat → Int32} (hf : frcOK P frc) : ∀ (l : List Nat) (g : Nat → Int32), BV P C g F T A D → (∀ c ∈ l, c < C) → BV P C (gRun P frc C l g) F T A D
  | [], _, h, _ => h
  | c :: l, g, h, hl => BV.run hP hf l _ (h.step hP hf (hl c List.mem_cons_self)) (fun d hd => hl d (List.mem_cons_of_mem _ hd))
theorem gRun_other {P : PL} (hP : PlOK P) {C : Nat} {F T A D : Nat → Nat} {frc : Nat → Int32} (hf : frcOK P frc) {j : Nat} (h4 : j < 3 ∨ 11 ≤ j) : ∀ (l : List Nat) (g : Nat → Int32), BV P C g F T A D → (∀ c ∈ l, c < C) → (∀ c ∈ l, j ≠ 15 + 7 * c ∧ j ≠ 16 + 7 * c ∧ j ≠ 17 + 7 * c) → gRun P frc C l g j = g j
  | [], _, _, _, _ => rfl
  | c :: l, g, h, hl, hj => by
    have hc := hl c List.mem_cons_self
    have q := hj c List.mem_cons_self
    show gRun P frc C l (gStep P frc C g c) j = g j
    rw [gRun_other hP hf h4 l _ (h.step hP hf hc) (fun d hd => hl d (List.mem_cons_of_mem _ hd)) (fun d hd => hj d (List.mem_cons_of_mem _ hd)), gStep_other hP h hf hc q.1 q.2.1 q.2.2 h4]
/-- the numbers from c on, r of them, with q -/
def evL (q : Nat → Bool) : Nat → Nat → List Nat
  | 0, _ => []
  | r + 1, c => if q c then c :: evL q r (c + 1) else evL q r (c + 1)
theorem evL_mem {q : Nat → Bool} : ∀ (r c d : Nat), d ∈ evL q r c ↔ c ≤ d ∧ d < c + r ∧ q d = true
  | 0, c, d => by simp [evL]; omega
  | r + 1, c, d => by
    simp only [evL]
    by_cases h : q c = true
    · rw [if_pos h, List.mem_cons, evL_mem r (c + 1) d]
      constructor
      · rintro (rfl | ⟨h1, h2, h3⟩)
        · exact ⟨Nat.le_refl _, by omega, h⟩
        · exact ⟨by omega, by omega, h3⟩
      · rintro ⟨h1, h2, h3⟩
        by_cases e : d = c
        · exact .inl e
        · exact .inr ⟨by omega, by omega, h3⟩
    · rw [if_neg h, evL_mem r (c + 1) d]
      constructor
      · rintro ⟨h1, h2, h3⟩
        exact ⟨by omega, by omega, h3⟩
      · rintro ⟨h1, h2, h3⟩
        refine ⟨?_, by omega, h3⟩
        by_cases e : d = c
        · subst e; exact absurd h3 h
        · omega
def orBits (x : Int32) (l : List Nat) : Int32 := l.foldl (fun x c => x ||| ((1 : Int32) <<< (nI c &&& 31))) x
theorem came_ovr {P : PL} {frc : Nat → Int32} {C m c : Nat} {g : Nat → Int32} (hA : g (13 + 7 * c) = nI m) : aCame P frc (up1 (ovr C (nI (m + 1)) g) 0 (nI m)) c = cameT P frc g c := by
  unfold aCame cameT
  rw [up1_ne _ _ (by omega), up1_ne _ _ (by omega), up1_self, ovr_ne (j := 11 + 7 * c) (fun d _ => by omega), ovr_ne (j := 12 + 7 * c) (fun d _ => by omega), hA]
theorem beg_run {P : PL} (hP : PlOK P) {C : Nat} {F T A D : Nat → Nat} {frc : Nat → Int32} (hf : frcOK P frc) {m : Nat} (hm : m ≤ 300000) {q : Nat → Bool} : ∀ (r c : Nat) (g : Nat → Int32) (x : Int32), BV P C g F T A D → c + r = C → (∀ d, c ≤ d → d < C → (q d = true ↔ g (15 + 7 * d) = 0 ∧ A d = m)) → aBegL P frc C r c (up1 (ovr C (nI (m + 1)) g) 0 (nI m)) = up1 (ovr C (nI (m + 1)) (gRun P frc C (evL q r c) g)) 0 (nI m) ∧ aBitL P frc C r c (up1 (ovr C (nI (m + 1)) g) 0 (nI m)) x = orBits x (gLost P frc C (evL q r c) g)
  | 0, _, _, _, _, _, _ => ⟨rfl, rfl⟩
  | r + 1, c, g, x, hV, hc, hq => by
    have w2 := hP.2.1
    obtain ⟨⟨e1, ha⟩, -, -, ⟨e3, hA⟩, e4, hD1, hD2⟩ := hV.2.2 c (by omega)
    have s0 : (up1 (ovr C (nI (m + 1)) g) 0 (nI m) (15 + 7 * c) = 0) = (g (15 + 7 * c) = 0) := by
      rw [up1_ne _ _ (by omega), ovr_st (by omega)]
      by_cases h : g (15 + 7 * c) = 1 ∧ ¬ nI (m + 1) ≤ g (13 + 7 * c) + g (14 + 7 * c)
      · rw [if_pos h, h.1]; simp
      · rw [if_neg h]
    have s1 : (up1 (ovr C (nI (m + 1)) g) 0 (nI m) (13 + 7 * c) = up1 (ovr C (nI (m + 1)) g) 0 (nI m) 0) = (A c = m) := by
      rw [up1_ne _ _ (by omega), up1_self, ovr_ne (j := 13 + 7 * c) (fun d _ => by omega), e3]
      exact propext (nI_eq (by omega) (by omega))
    show aBegL P frc C r (c + 1) (aBeg1 P frc C (up1 (ovr C (nI (m + 1)) g) 0 (nI m)) c) = _ ∧ aBitL P frc C r (c + 1) (aBeg1 P frc C (up1 (ovr C (nI (m + 1)) g) 0 (nI m)) c) (aBit1 P frc C (up1 (ovr C (nI (m + 1)) g) 0 (nI m)) c x) = _
    unfold aBeg1 aBit1 aLostBit
    simp only [s0, s1]
    by_cases h : g (15 + 7 * c) = 0 ∧ A c = m
    · have hqc : q c = true := (hq c (Nat.le_refl _) (by omega)).mpr h
      have eA : g (13 + 7 * c) = nI m := by rw [e3, h.2]
      obtain ⟨b, hb, eb⟩ := cameT_lt hP hV hf (show c < C by omega)
      have hE : nI (m + 1) ≤ g (13 + 7 * c) + g (14 + 7 * c) := by rw [eA, e4, nI_add]; exact nI_le (by omega) (by omega)
      rw [if_pos h, if_pos h, beg_ovr (by omega) eA hE (by omega) (by omega) e1 eb, came_ovr eA, cord_ovr (by omega), up1_ne _ _ (by omega), ovr_ne (j := 11 + 7 * c) (fun d _ => by omega)]
      have eg : cordT P C g (nI m) (g (11 + 7 * c)) (cameT P frc g c) = gCord P frc C g c := by unfold gCord; rw [eA]
      rw [eg]
      have ih := beg_run hP hf hm (q := q) r (c + 1) (gStep P frc C g c) (if gCord P frc C g c = -1 then x ||| ((1 : Int32) <<< (nI c &&& 31)) else x) (hV.step hP hf (by omega)) (by omega) (fun d h1 h2 => by
        rw [gStep_other hP hV hf (show c < C by omega) (by omega) (by omega) (by omega) (by omega)]
        exact hq d (by omega) h2)
      simp only [evL, hqc, if_true, gRun, gLost]
      refine ⟨ih.1, ih.2.trans ?_⟩
      by_cases hg : gCord P frc C g c = -1
      · rw [if_pos hg, if_pos hg]; rfl
      · rw [if_neg hg, if_neg hg]
    · have hqc : ¬ q c = true := fun w => h ((hq c (Nat.le_refl _) (by omega)).mp w)
      rw [if_neg h, if_neg h]
      simp only [evL, hqc]
      exact beg_run hP hf hm (q := q) r (c + 1) g x hV (by omega) (fun d h1 h2 => hq d (by omega) h2)
theorem aOverL_st : ∀ (r c : Nat) (f : Nat → Int32) (d : Nat), aOverL r c f (15 + 7 * d) = if c ≤ d ∧ d < c + r ∧ f (15 + 7 * d) = 1 ∧ ¬ f 0 < f (13 + 7 * d) + f (14 + 7 * d) then 2 else f (15 + 7 * d)
  | 0, c, f, d => by rw [if_neg (fun h => by omega)]; rfl
  | r + 1, c, f, d => by
    show aOverL r (c + 1) (aOver1 f c) (15 + 7 * d) = _
    rw [aOverL_st r (c + 1) (aOver1 f c) d]
    by_cases hd : d = c
    · subst hd
      rw [if_neg (fun h => by omega)]
      unfold aOver1
      by_cases h : f (15 + 7 * d) = 1 ∧ ¬ f 0 < f (13 + 7 * d) + f (14 + 7 * d)
      · rw [if_pos h, if_pos ⟨Nat.le_refl _, by omega, h⟩, up1_self]
      · rw [if_neg h, if_neg (fun q => h q.2.2)]
    · rw [aOver1_other (by omega), aOver1_other (by omega), aOver1_other (by omega), aOver1_other (by omega)]
      by_cases h : c + 1 ≤ d ∧ d < c + 1 + r ∧ f (15 + 7 * d) = 1 ∧ ¬ f 0 < f (13 + 7 * d) + f (14 + 7 * d)
      · rw [if_pos h, if_pos ⟨by omega, by omega, h.2.2⟩]
      · rw [if_neg h, if_neg (fun q => h ⟨by omega, by omega, q.2.2⟩)]
def fin_ (C m : Nat) (g : Nat → Int32) : Nat → Int32 := up1 (ovr C (nI m) g) 0 (nI m)
theorem over_fin {C m : Nat} (hm : m ≤ 300000) (g : Nat → Int32) : aOverL C 0 (fin_ C m g) = up1 (ovr C (nI (m + 1)) g) 0 (nI m) := by
  funext j
  rcases st_or C j with ⟨d, hd, rfl⟩ | h
  · rw [aOverL_st, up1_ne _ _ (by omega), ovr_st hd]
    unfold fin_
    rw [up1_self, up1_ne _ _ (by omega), up1_ne _ _ (by omega), up1_ne _ _ (by omega), ovr_st hd, ovr_ne (j := 13 + 7 * d) (fun d _ => by omega), ovr_ne (j := 14 + 7 * d) (fun d _ => by omega)]
    simp only [lt_le1 (show m < 2147483646 by omega)]
    have mono : nI (m + 1) ≤ g (13 + 7 * d) + g (14 + 7 * d) → nI m ≤ g (13 + 7 * d) + g (14 + 7 * d) := by
      rw [Int32.le_iff_toInt_le, Int32.le_iff_toInt_le, nI_toInt (by omega), nI_toInt (by omega)]; omega
    by_cases h1 : g (15 + 7 * d) = 1 <;> by_cases h2 : nI (m + 1) ≤ g (13 + 7 * d) + g (14 + 7 * d) <;> by_cases h3 : nI m ≤ g (13 + 7 * d) + g (14 + 7 * d) <;> simp [h1, h2, h3, hd]
    exact absurd (mono h2) h3
  · by_cases h0 : j = 0
    · subst h0
      rw [aOverL_other _ _ _ _ (fun d => by omega), up1_self]; unfold fin_; rw [up1_self]
    · rw [up1_ne _ _ h0, ovr_ne h]
      by_cases hs : ∃ d, j = 15 + 7 * d
      · obtain ⟨d, rfl⟩ := hs
        rw [aOverL_st, if_neg (fun q => h d (by omega) rfl)]
        unfold fin_; rw [up1_ne _ _ h0, ovr_ne h]
      · rw [aOverL_other _ _ _ _ (fun d q => hs ⟨d, q⟩)]
        unfold fin_; rw [up1_ne _ _ h0, ovr_ne h]
theorem up1_up1 {α : Type} (f : Nat → α) (a : Nat) (x y : α) : up1 (up1 f a x) a y = up1 f a y := by
  funext j; simp only [up1]; split <;> rfl
/-- a minute is its events -/
theorem min_sim {P : PL} (hP : PlOK P) {C : Nat} {F T A D : Nat → Nat} {frc : Nat → Int32} (hf : frcOK P frc) {m : Nat} (hm : m ≤ 300000) {q : Nat → Bool} {g : Nat → Int32} (hV : BV P C g F T A D) (hq : ∀ d, d < C → (q d = true ↔ g (15 + 7 * d) = 0 ∧ A d = m)) : aMin P frc C (fin_ C m g) = fin_ C (m + 1) (gRun P frc C (evL q C 0) g) ∧ aMinB P frc C (fin_ C m g) = orBits 0 (gLost P frc C (evL q C 0) g) := by
  have h := beg_run hP hf hm (q := q) C 0 g 0 hV (by omega) (fun d _ h2 => hq d h2)
  unfold aMin aMinB
  rw [over_fin hm]
  refine ⟨?_, h.2⟩
  rw [h.1, up1_self, up1_up1, nI_1]
  rfl
