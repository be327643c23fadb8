/-! many minutes; the order of calls -/
def aMins (P : PL) (frc : Nat → Int32) (C : Nat) : Nat → (Nat → Int32) → Nat → Int32
  | 0, f => f
  | n + 1, f => aMins P frc C n (aMin P frc C f)
theorem aMins_tail {P : PL} {frc : Nat → Int32} {C : Nat} : ∀ (n : Nat) (f : Nat → Int32), aMins P frc C (n + 1) f = aMin P frc C (aMins P frc C n f)
  | 0, _ => rfl
  | n + 1, f => aMins_tail n (aMin P frc C f)
def qq (g0 : Nat → Int32) (A : Nat → Nat) (m : Nat) (d : Nat) : Bool := decide (g0 (15 + 7 * d) = 0) && decide (A d = m)
def evM (g0 : Nat → Int32) (A : Nat → Nat) (C m : Nat) : List Nat := evL (qq g0 A m) C 0
def evU (g0 : Nat → Int32) (A : Nat → Nat) (C : Nat) : Nat → Nat → List Nat
  | _, 0 => []
  | m, n + 1 => evM g0 A C m ++ evU g0 A C (m + 1) n
theorem evM_mem {g0 : Nat → Int32} {A : Nat → Nat} {C m d : Nat} : d ∈ evM g0 A C m ↔ d < C ∧ g0 (15 + 7 * d) = 0 ∧ A d = m := by
  unfold evM
  rw [evL_mem]
  simp [qq]
theorem evU_mem {g0 : Nat → Int32} {A : Nat → Nat} {C d : Nat} : ∀ {n m : Nat}, d ∈ evU g0 A C m n ↔ d < C ∧ g0 (15 + 7 * d) = 0 ∧ m ≤ A d ∧ A d < m + n
  | 0, m => by simp only [evU, List.not_mem_nil, false_iff]; rintro ⟨-, -, h1, h2⟩; omega
  | n + 1, m => by
    simp only [evU, List.mem_append, evM_mem, evU_mem (n := n) (m := m + 1)]
    constructor
    · rintro (⟨h1, h2, h3⟩ | ⟨h1, h2, h3, h4⟩)
      · exact ⟨h1, h2, by omega, by omega⟩
      · exact ⟨h1, h2, by omega, by omega⟩
    · rintro ⟨h1, h2, h3, h4⟩
      by_cases e : A d = m
      · exact .inl ⟨h1, h2, e⟩
      · exact .inr ⟨h1, h2, by omega, by omega⟩
theorem evU_tail {g0 : Nat → Int32} {A : Nat → Nat} {C : Nat} : ∀ (n m : Nat), evU g0 A C m (n + 1) = evU g0 A C m n ++ evM g0 A C (m + n)
  | 0, m => by simp [evU]
  | n + 1, m => by
    show evM g0 A C m ++ evU g0 A C (m + 1) (n + 1) = _
    rw [evU_tail n (m + 1)]
    show _ = (evM g0 A C m ++ evU g0 A C (m + 1) n) ++ _
    rw [List.append_assoc, show m + 1 + n = m + (n + 1) by omega]
theorem evU_add {g0 : Nat → Int32} {A : Nat → Nat} {C : Nat} : ∀ (a b m : Nat), evU g0 A C m (a + b) = evU g0 A C m a ++ evU g0 A C (m + a) b
  | 0, b, m => by simp [evU]
  | a + 1, b, m => by
    rw [show a + 1 + b = (a + b) + 1 by omega]
    show evM g0 A C m ++ evU g0 A C (m + 1) (a + b) = (evM g0 A C m ++ evU g0 A C (m + 1) a) ++ _
    rw [evU_add a b (m + 1), List.append_assoc, show m + 1 + a = m + (a + 1) by omega]
theorem mins_sim {P : PL} (hP : PlOK P) {C : Nat} {F T A D : Nat → Nat} {frc : Nat → Int32} (hf : frcOK P frc) {g0 : Nat → Int32} : ∀ (n m : Nat) (g : Nat → Int32), m + n ≤ 300000 → BV P C g F T A D → (∀ d, d < C → m ≤ A d → (g (15 + 7 * d) = 0 ↔ g0 (15 + 7 * d) = 0)) → aMins P frc C n (fin_ C m g) = fin_ C (m + n) (gRun P frc C (evU g0 A C m n) g)
  | 0, _, _, _, _, _ => rfl
  | n + 1, m, g, hm, hV, hg => by
    have h1 := (min_sim hP hf (show m ≤ 300000 by omega) (q := qq g0 A m) hV (fun d hd => by
      simp only [qq, Bool.and_eq_true, decide_eq_true_eq]
      constructor
      · rintro ⟨q1, q2⟩; exact ⟨(hg d hd (by omega)).mpr q1, q2⟩
      · rintro ⟨q1, q2⟩; exact ⟨(hg d hd (by omega)).mp q1, q2⟩)).1
    have hl : ∀ c ∈ evM g0 A C m, c < C := fun c hc => (evM_mem.mp hc).1
    have ih := mins_sim hP hf (g0 := g0) n (m + 1) (gRun P frc C (evM g0 A C m) g) (by omega) (BV.run hP hf _ _ hV hl) (fun d hd hA => by
      rw [gRun_other hP hf (by omega) _ _ hV hl (fun c hc => by have := (evM_mem.mp hc).2.2; have : c ≠ d := fun q => by subst q; omega
                                                                omega)]
      exact hg d hd (by omega))
    show aMins P frc C n (aMin P frc C (fin_ C m g)) = _
    rw [h1]
    show aMins P frc C n (fin_ C (m + 1) (gRun P frc C (evM g0 A C m) g)) = fin_ C (m + (n + 1)) (gRun P frc C (evM g0 A C m ++ evU g0 A C (m + 1) n) g)
    rw [ih, gRun_app, show m + 1 + n = m + (n + 1) by omega]
/-- into the order, which lies latest first -/
def insR (A : Nat → Nat) (c : Nat) : List Nat → List Nat
  | [] => [c]
  | x :: xs => if A x ≤ A c then c :: x :: xs else x :: insR A c xs
def ordR (q : Nat → Bool) (A : Nat → Nat) : Nat → Nat → List Nat → List Nat
  | 0, _, l => l
  | r + 1, c, l => ordR q A r (c + 1) (if q c then insR A c l else l)
theorem insR_mem {A : Nat → Nat} {c d : Nat} : ∀ (l : List Nat), d ∈ insR A c l ↔ d = c ∨ d ∈ l
  | [] => by simp [insR]
  | x :: xs => by
    simp only [insR]
    split
    · simp
    · simp only [List.mem_cons, insR_mem xs]
      constructor
      · rintro (h | h | h) <;> simp [h]
      · rintro (h | h | h) <;> simp [h]
theorem insR_len {A : Nat → Nat} {c : Nat} : ∀ (l : List Nat), (insR A c l).length = l.length + 1
  | [] => rfl
  | x :: xs => by
    simp only [insR]
    split
    · rfl
    · simp [insR_len xs]
theorem insR_pw {A : Nat → Nat} {c : Nat} : ∀ (l : List Nat), l.Pairwise (fun a b => A b ≤ A a) → (insR A c l).Pairwise (fun a b => A b ≤ A a)
  | [], _ => by simp [insR]
  | x :: xs, h => by
    rw [List.pairwise_cons] at h
    simp only [insR]
    split
    · rename_i hx
      refine List.pairwise_cons.mpr ⟨fun b hb => ?_, List.pairwise_cons.mpr h⟩
      rcases List.mem_cons.mp hb with rfl | hb
      · exact hx
      · exact Nat.le_trans (h.1 b hb) hx
    · rename_i hx
      refine List.pairwise_cons.mpr ⟨fun b hb => ?_, insR_pw xs h.2⟩
      rcases (insR_mem xs).mp hb with rfl | hb
      · omega
      · exact h.1 b hb
theorem insR_flt {A : Nat → Nat} {c m : Nat} : ∀ (l : List Nat), (insR A c l).reverse.filter (fun d => decide (A d = m)) = l.reverse.filter (fun d => decide (A d = m)) ++ (if A c = m then [c] else [])
  | [] => by by_cases h : A c = m <;> simp [insR, h]
  | x :: xs => by
    simp only [insR]
    split
    · rw [List.reverse_cons, List.filter_append]
      by_cases h : A c = m <;> simp [h]
    · rename_i hx
      rw [List.reverse_cons, List.filter_append, insR_flt xs, List.reverse_cons, List.filter_append]
      by_cases h : A c = m
      · have h2 : ¬ A x = m := by omega
        simp [h, h2]
      · simp [h]
theorem ordR_mem {q : Nat → Bool} {A : Nat → Nat} {d : Nat} : ∀ (r c : Nat) (l : List Nat), d ∈ ordR q A r c l ↔ d ∈ l ∨ (c ≤ d ∧ d < c + r ∧ q d = true)
  | 0, c, l => by simp [ordR]; intros; omega
  | r + 1, c, l => by
    show d ∈ ordR q A r (c + 1) (if q c then insR A c l else l) ↔ _
    rw [ordR_mem r (c + 1)]
    by_cases h : q c = true
    · rw [if_pos h, insR_mem]
      constructor
      · rintro ((rfl | h1) | ⟨h1, h2, h3⟩)
        · exact .inr ⟨Nat.le_refl _, by omega, h⟩
        · exact .inl h1
        · exact .inr ⟨by omega, by omega, h3⟩
      · rintro (h1 | ⟨h1, h2, h3⟩)
        · exact .inl (.inr h1)
        · by_cases e : d = c
          · exact .inl (.inl e)
          · exact .inr ⟨by omega, by omega, h3⟩
    · rw [if_neg h]
      constructor
      · rintro (h1 | ⟨h1, h2, h3⟩)
        · exact .inl h1
        · exact .inr ⟨by omega, by omega, h3⟩
      · rintro (h1 | ⟨h1, h2, h3⟩)
        · exact .inl h1
        · refine .inr ⟨?_, by omega, h3⟩
          by_cases e : d = c
          · subst e; exact absurd h3 h
          · omega
theorem ordR_pw {q : Nat → Bool} {A : Nat → Nat} : ∀ (r c : Nat) (l : List Nat), l.Pairwise (fun a b => A b ≤ A a) → (ordR q A r c l).Pairwise (fun a b => A b ≤ A a)
  | 0, _, _, h => h
  | r + 1, c, l, h => by
    refine ordR_pw r (c + 1) _ ?_
    split
    · exact insR_pw l h
    · exact h
theorem ordR_len {q : Nat → Bool} {A : Nat → Nat} : ∀ (r c : Nat) (l : List Nat), (ordR q A r c l).length ≤ l.length + r
  | 0, _, _ => Nat.le_refl _
  | r + 1, c, l => by
    refine Nat.le_trans (ordR_len r (c + 1) _) ?_
    split
    · rw [insR_len]; omega
    · omega
theorem ordR_flt {q : Nat → Bool} {A : Nat → Nat} {m : Nat} : ∀ (r c : Nat) (l : List Nat), (ordR q A r c l).reverse.filter (fun d => decide (A d = m)) = l.reverse.filter (fun d => decide (A d = m)) ++ evL (fun d => q d && decide (A d = m)) r c
  | 0, _, _ => by simp [ordR, evL]
  | r + 1, c, l => by
    show (ordR q A r (c + 1) (if q c then insR A c l else l)).reverse.filter _ = _
    rw [ordR_flt r (c + 1)]
    simp only [evL]
    by_cases h : q c = true
    · rw [if_pos h, insR_flt]
      by_cases h2 : A c = m
      · simp [h, h2]
      · simp [h, h2]
    · simp [h]
theorem flt_split {A : Nat → Nat} {m : Nat} : ∀ (l : List Nat), l.Pairwise (fun a b => A a ≤ A b) → l.filter (fun d => decide (A d < m + 1)) = l.filter (fun d => decide (A d < m)) ++ l.filter (fun d => decide (A d = m))
  | [], _ => rfl
  | x :: xs, h => by
    rw [List.pairwise_cons] at h
    have ih := flt_split (m := m) xs h.2
    rcases Nat.lt_trichotomy (A x) m with hx | hx | hx
    · have h1 : A x < m + 1 := by omega
      have h2 : ¬ A x = m := by omega
      simp [List.filter_cons, h1, h2, hx, ih]
    · have h1 : A x < m + 1 := by omega
      have h2 : ¬ A x < m := by omega
      have h3 : xs.filter (fun d => decide (A d < m)) = [] := by
        rw [List.filter_eq_nil_iff]
        intro a ha
        have := h.1 a ha
        simp; omega
      simp [List.filter_cons, h1, h2, hx, ih, h3]
    · have h1 : ¬ A x < m + 1 := by omega
      have h2 : ¬ A x = m := by omega
      have h3 : ¬ A x < m := by omega
      simp [List.filter_cons, h1, h2, h3, ih]
def ordF (q : Nat → Bool) (A : Nat → Nat) (C : Nat) : List Nat := (ordR q A C 0 []).reverse
/-- of the order, what begins ahead of a minute: the events minute by minute -/
theorem ord_evU {g0 : Nat → Int32} {A : Nat → Nat} {C M : Nat} (hA : ∀ d, d < C → g0 (15 + 7 * d) = 0 → M ≤ A d) : ∀ (n : Nat), (ordF (fun d => decide (g0 (15 + 7 * d) = 0)) A C).filter (fun d => decide (A d < M + n)) = evU g0 A C M n
  | 0 => by
    show _ = []
    rw [List.filter_eq_nil_iff]
    intro a ha
    have := (ordR_mem C 0 []).mp (List.mem_reverse.mp ha)
    simp at this
    have := hA a this.1 this.2
    simp; omega
  | n + 1 => by
    have hpw : (ordF (fun d => decide (g0 (15 + 7 * d) = 0)) A C).Pairwise (fun a b => A a ≤ A b) := List.pairwise_reverse.mpr (ordR_pw C 0 [] List.Pairwise.nil)
    rw [evU_tail, ← ord_evU hA n, ← Nat.add_assoc, flt_split _ hpw]
    congr 1
    unfold ordF
    rw [ordR_flt]
    rfl
