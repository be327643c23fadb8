/-! a board behind minutes -/
theorem evU_ok {g0 : Nat → Int32} {A : Nat → Nat} {C : Nat} : ∀ (n m : Nat), (evU g0 A C m n).Pairwise (fun a b => A a ≤ A b ∧ a ≠ b)
  | 0, _ => List.Pairwise.nil
  | n + 1, m => by
    show (evM g0 A C m ++ evU g0 A C (m + 1) n).Pairwise _
    rw [List.pairwise_append]
    refine ⟨?_, evU_ok n (m + 1), fun a ha b hb => ?_⟩
    · refine List.Pairwise.imp_of_mem (fun {a b} ha hb h => ?_) (evL_sorted C 0)
      have h1 := evM_mem.mp ha
      have h2 := evM_mem.mp hb
      exact ⟨by omega, by omega⟩
    · have h1 := evM_mem.mp ha
      have h2 := evU_mem.mp hb
      exact ⟨by omega, fun q => by subst q; omega⟩
theorem evU_nodup {g0 : Nat → Int32} {A : Nat → Nat} {C n m : Nat} : (evU g0 A C m n).Nodup := List.Pairwise.imp (fun h => h.2) (evU_ok n m)
theorem evU_sort {g0 : Nat → Int32} {A : Nat → Nat} {C n m : Nat} : (evU g0 A C m n).Pairwise (fun a b => A a ≤ A b) := List.Pairwise.imp (fun h => h.1) (evU_ok n m)
theorem Dj.run {P : PL} (hP : PlOK P) {C : Nat} {F T A D : Nat → Nat} {frc : Nat → Int32} (hf : frcOK P frc) : ∀ (l : List Nat) (g : Nat → Int32) (e e' : Nat), BV P C g F T A D → (∀ c ∈ l, c < C ∧ e ≤ A c + 1 ∧ A c + 1 ≤ e') → l.Pairwise (fun a b => A a ≤ A b) → Dj C g A D e → e ≤ e' → Dj C (gRun P frc C l g) A D e'
  | [], _, _, _, _, _, _, h, he => h.le he
  | c :: l, g, e, e', hV, hl, hp, h, he => by
    obtain ⟨hc, h1, h2⟩ := hl c List.mem_cons_self
    rw [List.pairwise_cons] at hp
    exact Dj.run hP hf l _ (A c + 1) e' (hV.step hP hf hc) (fun d hd => ⟨(hl d (List.mem_cons_of_mem _ hd)).1, by have := hp.1 d hd; omega, (hl d (List.mem_cons_of_mem _ hd)).2.2⟩) hp.2 (h.step hP hV hf hc h1) h2
def SpOK (P : PL) (f : Nat → Int32) : Prop := ∀ l, l < 8 → f (3 + l) = -1 ∨ ∃ s, s < pW P ∧ f (3 + l) = nI s
theorem SpOK.step {P : PL} (hP : PlOK P) {C : Nat} {g : Nat → Int32} {F T A D : Nat → Nat} (hV : BV P C g F T A D) {frc : Nat → Int32} (hf : frcOK P frc) {c : Nat} (hc : c < C) (h : SpOK P g) : SpOK P (gStep P frc C g c) := by
  obtain ⟨b, hb, eb⟩ := cameT_lt hP hV hf hc
  have w2 := hP.2.1
  obtain ⟨⟨e1, ha⟩, -⟩ := hV.2.2 c hc
  unfold gStep
  rw [e1, eb]
  unfold aPutT
  rw [nI_clamp (by omega), nI_clamp (by omega)]
  intro l hl
  split
  · rw [up1_ne _ _ (by omega)]; exact h l hl
  · split
    · by_cases q1 : l = b
      · subst q1; rw [up1_self]; exact .inr ⟨F c, ha, rfl⟩
      · rw [up1_ne _ _ (by omega)]
        by_cases q2 : l = F c
        · rw [q2, up1_self]; exact .inr ⟨b, hb, rfl⟩
        · rw [up1_ne _ _ (by omega), up1_ne _ _ (by omega), up1_ne _ _ (by omega), up1_ne _ _ (by omega)]; exact h l hl
    · rw [up1_ne _ _ (by omega), up1_ne _ _ (by omega), up1_ne _ _ (by omega)]; exact h l hl
theorem SpOK.run {P : PL} (hP : PlOK P) {C : Nat} {F T A D : Nat → Nat} {frc : Nat → Int32} (hf : frcOK P frc) : ∀ (l : List Nat) (g : Nat → Int32), BV P C g F T A D → (∀ c ∈ l, c < C) → SpOK P g → SpOK P (gRun P frc C l g)
  | [], _, _, _, h => h
  | c :: l, g, hV, hl, h => by
    have hc := hl c List.mem_cons_self
    exact SpOK.run hP hf l _ (hV.step hP hf hc) (fun d hd => hl d (List.mem_cons_of_mem _ hd)) (h.step hP hV hf hc)
theorem fin_ne {C m j : Nat} {g : Nat → Int32} (h0 : j ≠ 0) (h : ∀ d, d < C → j ≠ 15 + 7 * d) : fin_ C m g j = g j := by
  unfold fin_; rw [up1_ne _ _ h0, ovr_ne h]
theorem fin_st {C m d : Nat} {g : Nat → Int32} (hd : d < C) : fin_ C m g (15 + 7 * d) = if g (15 + 7 * d) = 1 ∧ ¬ nI m ≤ g (13 + 7 * d) + g (14 + 7 * d) then 2 else g (15 + 7 * d) := by
  unfold fin_; rw [up1_ne _ _ (by omega), ovr_st hd]
theorem BV.le {P : PL} {C : Nat} {g : Nat → Int32} {F T A D : Nat → Nat} (hV : BV P C g F T A D) {d t : Nat} (hd : d < C) (ht : t ≤ 300000) : nI t ≤ g (13 + 7 * d) + g (14 + 7 * d) ↔ t ≤ A d + D d := by
  obtain ⟨-, -, -, ⟨e3, hA⟩, e4, -, hD⟩ := hV.2.2 d hd
  rw [e3, e4, nI_add]
  exact nI_leI (by omega) (by omega)
/-- the state of a call behind minutes -/
theorem fin_st2 {P : PL} {C m d : Nat} {g : Nat → Int32} {F T A D : Nat → Nat} (hV : BV P C g F T A D) (hd : d < C) (hm : m ≤ 300000) : fin_ C m g (15 + 7 * d) = if g (15 + 7 * d) = 1 ∧ A d + D d < m then 2 else g (15 + 7 * d) := by
  rw [fin_st hd]
  have : (¬ nI m ≤ g (13 + 7 * d) + g (14 + 7 * d)) ↔ A d + D d < m := by rw [hV.le hd hm]; omega
  by_cases h : g (15 + 7 * d) = 1 ∧ A d + D d < m
  · rw [if_pos h, if_pos ⟨h.1, this.mpr h.2⟩]
  · rw [if_neg h, if_neg (fun q => h ⟨q.1, this.mp q.2⟩)]
theorem BV.fin {P : PL} {C m : Nat} {g : Nat → Int32} {F T A D : Nat → Nat} (hV : BV P C g F T A D) : BV P C (fin_ C m g) F T A D := by
  obtain ⟨h1, h2, h3⟩ := hV
  refine ⟨h1, by rw [fin_ne (by omega) (fun d _ => by omega)]; exact h2, fun c hc => ?_⟩
  rw [fin_ne (j := 11 + 7 * c) (by omega) (fun d _ => by omega), fin_ne (j := 12 + 7 * c) (by omega) (fun d _ => by omega), fin_ne (j := 13 + 7 * c) (by omega) (fun d _ => by omega), fin_ne (j := 14 + 7 * c) (by omega) (fun d _ => by omega)]
  exact h3 c hc
theorem BI.fin0 {P : PL} {C : Nat} {f : Nat → Int32} {F T A D : Nat → Nat} {M : Nat} (h : BI P C f F T A D M) (hM : M ≤ 300000) : fin_ C M f = f := by
  obtain ⟨h1, h2, h3, h4, -⟩ := h
  funext j
  by_cases h0 : j = 0
  · subst h0; unfold fin_; rw [up1_self, h2]
  · rcases st_or C j with ⟨d, hd, rfl⟩ | hj
    · rw [fin_st2 h1 hd hM, if_neg (fun q => by have := (h4 d hd q.1).1; omega)]
    · exact fin_ne h0 hj
theorem BI.pass {P : PL} (hP : PlOK P) {frc : Nat → Int32} (hf : frcOK P frc) {C : Nat} {f : Nat → Int32} {F T A D : Nat → Nat} {M : Nat} (h : BI P C f F T A D M) {n : Nat} (hM : M + n ≤ 300000) : BI P C (fin_ C (M + n) (gRun P frc C (evU f A C M n) f)) F T A D (M + n) := by
  obtain ⟨h1, h2, h3, h4, h5, h6, h7⟩ := h
  have hl : ∀ c ∈ evU f A C M n, c < C := fun c hc => (evU_mem.mp hc).1
  have hV := BV.run hP hf _ _ h1 hl
  have hC := h1.1
  have w3 := hP.2.2.1
  have st := fun d (hd : d < C) => fin_st2 (m := M + n) hV hd hM
  have n16 : ∀ d, fin_ C (M + n) (gRun P frc C (evU f A C M n) f) (16 + 7 * d) = gRun P frc C (evU f A C M n) f (16 + 7 * d) := fun d => fin_ne (by omega) (fun e _ => by omega)
  have n17 : ∀ d, fin_ C (M + n) (gRun P frc C (evU f A C M n) f) (17 + 7 * d) = gRun P frc C (evU f A C M n) f (17 + 7 * d) := fun d => fin_ne (by omega) (fun e _ => by omega)
  have n11 : ∀ d, fin_ C (M + n) (gRun P frc C (evU f A C M n) f) (11 + 7 * d) = gRun P frc C (evU f A C M n) f (11 + 7 * d) := fun d => fin_ne (by omega) (fun e _ => by omega)
  have oth : ∀ d, d < C → d ∉ evU f A C M n → ∀ j, (j = 15 + 7 * d ∨ j = 16 + 7 * d ∨ j = 17 + 7 * d) → gRun P frc C (evU f A C M n) f j = f j := fun d hd hq j hj => gRun_other hP hf (by omega) _ _ h1 hl (fun c hc => by have : c ≠ d := fun w => hq (w ▸ hc); omega)
  have on1 : ∀ d, d < C → fin_ C (M + n) (gRun P frc C (evU f A C M n) f) (15 + 7 * d) = 1 → gRun P frc C (evU f A C M n) f (15 + 7 * d) = 1 ∧ M + n ≤ A d + D d := fun d hd q => by
    rw [st d hd] at q
    by_cases w : gRun P frc C (evU f A C M n) f (15 + 7 * d) = 1 ∧ A d + D d < M + n
    · rw [if_pos w] at q; exact absurd q (by decide)
    · rw [if_neg w] at q; exact ⟨q, by rcases Nat.lt_or_ge (A d + D d) (M + n) with z | z; exact absurd ⟨q, z⟩ w; exact z⟩
  refine ⟨hV.fin, ?_, fun d hd q => ?_, fun d hd q => ?_, fun d hd q => ?_, ?_, ?_⟩
  · unfold fin_; rw [up1_self]
  · obtain ⟨q1, q2⟩ := on1 d hd q
    rw [n16, n17]
    by_cases hq : d ∈ evU f A C M n
    · rcases gRun_at hP hf _ f d h1 hl evU_nodup hq with ⟨-, s, -⟩ | ⟨-, s, ⟨b, b1, -, b2⟩, k, k1, k2⟩
      · rw [s] at q1; exact absurd q1 (by decide)
      · exact ⟨⟨b, b1, b2⟩, k, k1, k2⟩
    · rw [oth d hd hq _ (.inl rfl)] at q1
      rw [oth d hd hq _ (.inr (.inl rfl)), oth d hd hq _ (.inr (.inr rfl))]
      exact h3 d hd q1
  · obtain ⟨q1, q2⟩ := on1 d hd q
    refine ⟨q2, ?_⟩
    by_cases hq : d ∈ evU f A C M n
    · exact (evU_mem.mp hq).2.2.2
    · rw [oth d hd hq _ (.inl rfl)] at q1
      have := (h4 d hd q1).2; omega
  · rw [st d hd] at q
    have q1 : gRun P frc C (evU f A C M n) f (15 + 7 * d) = 0 := by
      by_cases w : gRun P frc C (evU f A C M n) f (15 + 7 * d) = 1 ∧ A d + D d < M + n
      · rw [if_pos w] at q; exact absurd q (by decide)
      · rwa [if_neg w] at q
    have hq : d ∉ evU f A C M n := fun hq => by
      rcases gRun_at hP hf _ f d h1 hl evU_nodup hq with ⟨-, s, -⟩ | ⟨-, s, -⟩
      · rw [s] at q1; exact absurd q1 (by decide)
      · rw [s] at q1; exact absurd q1 (by decide)
    rw [oth d hd hq _ (.inl rfl)] at q1
    rw [n16, n17, oth d hd hq _ (.inr (.inl rfl)), oth d hd hq _ (.inr (.inr rfl))]
    obtain ⟨z1, z2, z3⟩ := h5 d hd q1
    refine ⟨?_, by omega, z3⟩
    rcases Nat.lt_or_ge (A d) (M + n) with w | w
    · exact absurd (evU_mem.mpr ⟨hd, q1, z1, w⟩) hq
    · exact w
  · have hD := Dj.run hP hf (evU f A C M n) f M (M + n) h1 (fun c hc => by have := evU_mem.mp hc; exact ⟨this.1, by omega, by omega⟩) evU_sort h6 (by omega)
    intro c d hc hd e q1 q2 r1 r2
    rw [n11, n11, n16, n16, n17, n17]
    exact hD c d hc hd e (on1 c hc q1).1 (on1 d hd q2).1 r1 r2
  · have hS := SpOK.run hP hf (evU f A C M n) f h1 hl h7
    intro l hl9
    rw [fin_ne (by omega) (fun d _ => by omega)]
    exact hS l hl9
