/-! cords in use at the end of a minute -/
def useP (f h : Nat → Int32) (t : Int32) (c : Nat) : Bool := (decide (f (15 + 7 * c) = 0) || decide (f (15 + 7 * c) = 1)) && (decide (h (16 + 7 * c) ≠ -1) && (decide (¬ t < f (13 + 7 * c)) && decide (¬ f (13 + 7 * c) + f (14 + 7 * c) ≤ t)))
def aUse (C : Nat) (f h : Nat → Int32) (t : Int32) : List Nat := evL (useP f h t) C 0
theorem evL_congr {p q : Nat → Bool} : ∀ (r c : Nat), (∀ d, c ≤ d → d < c + r → p d = q d) → evL p r c = evL q r c
  | 0, _, _ => rfl
  | r + 1, c, h => by
    simp only [evL]
    rw [h c (Nat.le_refl _) (by omega), evL_congr r (c + 1) (fun d h1 h2 => h d (by omega) (by omega))]
theorem evL_len {p : Nat → Bool} : ∀ (r c : Nat), (evL p r c).length ≤ r
  | 0, _ => Nat.le_refl _
  | r + 1, c => by
    simp only [evL]
    split
    · rw [List.length_cons]; have := evL_len (p := p) r (c + 1); omega
    · have := evL_len (p := p) r (c + 1); omega
theorem evL_mono {p q : Nat → Bool} : ∀ (r c : Nat), (∀ d, c ≤ d → d < c + r → p d = true → q d = true) → (evL p r c).length ≤ (evL q r c).length
  | 0, _, _ => Nat.le_refl _
  | r + 1, c, h => by
    have ih := evL_mono r (c + 1) (fun d h1 h2 => h d (by omega) (by omega))
    simp only [evL]
    by_cases hp : p c = true
    · rw [if_pos hp, if_pos (h c (Nat.le_refl _) (by omega) hp), List.length_cons, List.length_cons]; omega
    · rw [if_neg hp]
      split
      · rw [List.length_cons]; omega
      · exact ih
section CUse
variable {S : mkS} {I : mkI} {L : mkL} {R : mkR} {n : Nat × Nat}
theorem c_useL (hs : St S R) (hb : BdS S R 170 174 175) {C : Nat} (hC : C ≤ 10) (h1 : I 174 1 = nI C) (h2 : I 182 1 = nI C) (t : Int32) : ∀ (r g c y : Nat), c + r = C → r < g → F_X11_cordsInUse_4 g (some 128) t (nI y) (nI c) (mk S I L R n) = some (nI (y + (evL (useP (I 174) (I 182) t) r c).length), mk S I L R n) := by
  have ht := bds_t hs
  intro r
  induction r with
  | zero =>
    intro g c y hc hg
    obtain ⟨g, rfl⟩ : ∃ z, g = z + 1 := ⟨g - 1, by omega⟩
    simp only [F_X11_cordsInUse_4]
    rw [gr_128_5 hs, Option.bind_some, bd_v hb, c_calls hb, b2_some, h1, if_pos (nI_le (by omega) (by omega))]
    rfl
  | succ r ih =>
    intro g c y hc hg
    obtain ⟨g, rfl⟩ : ∃ z, g = z + 1 := ⟨g - 1, by omega⟩
    have hcC : c < C := by omega
    have f2 : F_X0_fact (some 170) (nI c) (2 : Int32) (mk S I L R n) = some (I 174 (13 + 7 * c), mk S I L R n) := by
      have := c_fact (n := n) (L := L) (w := 2) hb hC h1 hcC (by decide)
      rw [show 11 + 7 * c + 2 = 13 + 7 * c by omega] at this; exact this
    have i1 := ih g (c + 1) y (by omega) (by omega)
    have i2 := ih g (c + 1) (y + 1) (by omega) (by omega)
    have nle : ¬ nI C ≤ nI c := nI_ge (by omega) (by omega)
    simp only [F_X11_cordsInUse_4, F_X11_cordsInUse_37, F_X11_cordsInUse_42, F_X11_cordsInUse_96, gr_128_5 hs, gr_128_7 hs, Option.bind_some, bd_v hb, bd_v ht, c_calls hb, b2_some, h1, if_neg nle, c_isToCome hb hC h1 hcC, c_isOn hb hC h1 hcC, b2i_0, f2, c_endOf hb hC h1 hcC, c_wasOn ht hC h2 hcC, nI_1, i1, i2, evL]
    by_cases q1 : I 174 (15 + 7 * c) = 0
    · by_cases q3 : I 182 (16 + 7 * c) = -1
      · simp [useP, q1, q3]
      · by_cases q4 : t < I 174 (13 + 7 * c)
        · simp [useP, q1, q3, q4]
        · by_cases q5 : I 174 (13 + 7 * c) + I 174 (14 + 7 * c) ≤ t
          · simp [useP, q1, q3, q4, q5]
          · simp [useP, q1, q3, q4, q5]; exact congrArg nI (by omega)
    · by_cases q2 : I 174 (15 + 7 * c) = 1
      · by_cases q3 : I 182 (16 + 7 * c) = -1
        · simp [useP, q2, q3]
        · by_cases q4 : t < I 174 (13 + 7 * c)
          · simp [useP, q2, q3, q4]
          · by_cases q5 : I 174 (13 + 7 * c) + I 174 (14 + 7 * c) ≤ t
            · simp [useP, q2, q3, q4, q5]
            · simp [useP, q2, q3, q4, q5]; exact congrArg nI (by omega)
      · simp [useP, q1, q2]
theorem c_use (hs : St S R) (hb : BdS S R 170 174 175) {C : Nat} (hC : C ≤ 10) (h1 : I 174 1 = nI C) (h2 : I 182 1 = nI C) (t : Int32) : F_X11_cordsInUse (some 128) t (mk S I L R n) = some (nI (aUse C (I 174) (I 182) t).length, mk S I L R n) := by
  have := c_useL (L := L) (n := n) hs hb hC h1 h2 t C mm_N 0 0 (by omega) (by show C < 1000000; omega)
  rw [Nat.zero_add] at this
  exact this
end CUse
theorem gLost_pre {P : PL} {frc : Nat → Int32} {C : Nat} {f : Nat → Int32} {A : Nat → Nat} {M k n d : Nat} (hk : k ≤ n) (hd : d ∈ evU f A C M k) : d ∈ gLost P frc C (evU f A C M n) f ↔ d ∈ gLost P frc C (evU f A C M k) f := by
  obtain ⟨z, rfl⟩ : ∃ z, n = k + z := ⟨n - k, by omega⟩
  rw [evU_add, gLost_app, List.mem_append]
  constructor
  · rintro (h | h)
    · exact h
    · have h1 := evU_mem.mp (gLost_mem _ _ h)
      have h2 := evU_mem.mp hd
      omega
  · exact .inl
/-- by the board ahead and the one behind all minutes: what is on at the end of one -/
theorem use_on {P : PL} (hP : PlOK P) {frc : Nat → Int32} (hf : frcOK P frc) {C : Nat} {f f0 : Nat → Int32} {F T A D : Nat → Nat} {M n k : Nat} (h : BI P C f F T A D M) (h0 : ∀ j, j < 81 → f0 j = f j) (hk : k < n) (hM : M + n ≤ 300000) : aUse C f0 (fin_ C (M + n) (gRun P frc C (evU f A C M n) f)) (nI (M + k)) = aCnt C (fin_ C (M + k + 1) (gRun P frc C (evU f A C M (k + 1)) f)) 1 := by
  obtain ⟨h1, h2, h3, h4, h5, h6, h7⟩ := h
  have hC := h1.1
  refine evL_congr C 0 (fun d _ hd => ?_)
  have hd : d < C := by omega
  have l1 : ∀ c ∈ evU f A C M n, c < C := fun c hc => (evU_mem.mp hc).1
  have l2 : ∀ c ∈ evU f A C M (k + 1), c < C := fun c hc => (evU_mem.mp hc).1
  have V2 := BV.run hP hf _ _ h1 l2
  have oth : ∀ m, d ∉ evU f A C M m → ∀ j, (j = 15 + 7 * d ∨ j = 16 + 7 * d) → gRun P frc C (evU f A C M m) f j = f j := fun m hq j hj => gRun_other hP hf (by omega) _ _ h1 (fun c hc => (evU_mem.mp hc).1) (fun c hc => by have : c ≠ d := fun w => hq (w ▸ hc); omega)
  have e16 : fin_ C (M + n) (gRun P frc C (evU f A C M n) f) (16 + 7 * d) = gRun P frc C (evU f A C M n) f (16 + 7 * d) := fin_ne (by omega) (fun e _ => by omega)
  have tA : (¬ nI (M + k) < f (13 + 7 * d)) ↔ A d ≤ M + k := by
    obtain ⟨-, -, -, ⟨e3, hA⟩, -⟩ := h1.2.2 d hd
    rw [e3, nI_ltI (by omega) (by omega)]; omega
  have tE : (¬ f (13 + 7 * d) + f (14 + 7 * d) ≤ nI (M + k)) ↔ M + k < A d + D d := by
    rw [← h1.lt hd (by omega)]
    rw [Int32.le_iff_toInt_le, Int32.lt_iff_toInt_lt]; omega
  unfold useP
  rw [h0 _ (by omega), h0 _ (by omega), h0 _ (by omega), e16]
  have dA : decide (¬ nI (M + k) < f (13 + 7 * d)) = decide (A d ≤ M + k) := decide_eq_decide.mpr tA
  have dE : decide (¬ f (13 + 7 * d) + f (14 + 7 * d) ≤ nI (M + k)) = decide (M + k < A d + D d) := decide_eq_decide.mpr tE
  rw [dA, dE, fin_st2 (m := M + k + 1) V2 hd (by omega)]
  by_cases hq : d ∈ evU f A C M (k + 1)
  · have hm := evU_mem.mp hq
    have hqn : d ∈ evU f A C M n := evU_mem.mpr ⟨hm.1, hm.2.1, hm.2.2.1, by omega⟩
    have hA : A d ≤ M + k := by omega
    have c0 := (h5 d hd hm.2.1).2.2.1
    rcases gRun_at hP hf _ f d h1 l2 evU_nodup hq with ⟨a1, a2, -⟩ | ⟨a1, a2, -⟩
    · rcases gRun_at hP hf _ f d h1 l1 evU_nodup hqn with ⟨-, -, b3, -⟩ | ⟨b1, -⟩
      · rw [a2, b3, c0, if_neg (fun w => by have := w.1; revert this; decide)]
        simp
      · exact absurd ((gLost_pre (P := P) (frc := frc) (by omega) hq).mpr a1) b1
    · rcases gRun_at hP hf _ f d h1 l1 evU_nodup hqn with ⟨b1, -⟩ | ⟨-, -, ⟨e, b4, -, b5⟩, -⟩
      · exact absurd ((gLost_pre (P := P) (frc := frc) (by omega) hq).mp b1) a1
      · have w2 := hP.2.1
        have hne : ¬ nI e = -1 := nI_nm1 (by omega)
        rw [a2, b5, hm.2.1]
        by_cases z : M + k < A d + D d
        · rw [if_neg (fun w => by omega)]
          simp [hne, hA, z]
        · rw [if_pos ⟨rfl, by omega⟩]
          simp [z]
  · rw [oth (k + 1) hq _ (.inl rfl)]
    by_cases s1 : f (15 + 7 * d) = 1
    · obtain ⟨⟨e, he, ee⟩, -⟩ := h3 d hd s1
      obtain ⟨z1, z2⟩ := h4 d hd s1
      have hqn : d ∉ evU f A C M n := fun w => by
        have := (evU_mem.mp w).2.1
        rw [s1] at this; exact absurd this (by decide)
      have w2 := hP.2.1
      have hne : ¬ nI e = -1 := nI_nm1 (by omega)
      have hA : A d ≤ M + k := by omega
      rw [oth n hqn _ (.inr rfl), ee, s1]
      by_cases z : M + k < A d + D d
      · rw [if_neg (fun w => by omega)]
        simp [hne, hA, z]
      · rw [if_pos ⟨rfl, by omega⟩]
        simp [z]
    · have hr : ¬ (if f (15 + 7 * d) = 1 ∧ A d + D d < M + k + 1 then (2 : Int32) else f (15 + 7 * d)) = 1 := by
        rw [if_neg (fun w => s1 w.1)]; exact s1
      rw [decide_eq_false hr]
      by_cases s0 : f (15 + 7 * d) = 0
      · obtain ⟨z1, -⟩ := h5 d hd s0
        have hA : ¬ A d ≤ M + k := fun w => hq (evU_mem.mpr ⟨hd, s0, z1, by omega⟩)
        simp [hA]
      · simp [s0, s1]
/-! the busiest minute -/
def uMax (u : Nat → Nat) (n b : Nat) : Prop := b < n ∧ (∀ j, j < n → u j ≤ u b) ∧ ∀ j, j < b → u j < u b
theorem uMax_one {u : Nat → Nat} {n b b' : Nat} (h : uMax u n b) (h' : uMax u n b') : b = b' := by
  rcases Nat.lt_trichotomy b b' with q | q | q
  · have h1 := h'.2.2 b q
    have h2 := h.2.1 b' h'.1
    omega
  · exact q
  · have h1 := h.2.2 b' q
    have h2 := h'.2.1 b h.1
    omega
theorem uMax_ex (u : Nat → Nat) : ∀ n, 0 < n → ∃ b, uMax u n b
  | 0, h => by omega
  | 1, _ => ⟨0, by omega, fun j hj => by have : j = 0 := by omega
                                         rw [this]; exact Nat.le_refl _, fun j hj => by omega⟩
  | n + 2, _ => by
    obtain ⟨b, h1, h2, h3⟩ := uMax_ex u (n + 1) (by omega)
    by_cases q : u b < u (n + 1)
    · refine ⟨n + 1, by omega, fun j hj => ?_, fun j hj => ?_⟩
      · by_cases e : j = n + 1
        · rw [e]; exact Nat.le_refl _
        · have := h2 j (by omega); omega
      · have := h2 j (by omega); omega
    · refine ⟨b, by omega, fun j hj => ?_, h3⟩
      by_cases e : j = n + 1
      · rw [e]; omega
      · exact h2 j (by omega)
section KB
variable {S : mkS} {L : mkL} {R : mkR} {n : Nat × Nat} {P : PL}
/-- how many are on at the end of the k-th minute -/
def onK (P : PL) (frc : Nat → Int32) (C : Nat) (f : Nat → Int32) (A : Nat → Nat) (M k : Nat) : Nat := (aCnt C (fin_ C (M + k + 1) (gRun P frc C (evU f A C M (k + 1)) f)) 1).length
theorem onK_le {frc : Nat → Int32} {C : Nat} {f : Nat → Int32} {A : Nat → Nat} {M k : Nat} : onK P frc C f A M k ≤ C := evL_len C 0
theorem e_bsyL (hs : St S R) (hP : PlOK P) {C : Nat} {f : Nat → Int32} {F T A D : Nat → Nat} {M : Nat} (hB : BI P C f F T A D M) {I I0 : mkI} (h1 : ∀ a, a ≠ 206 → I0 a = I a) (h2 : ∀ j, j < 41 → I0 206 j = I 198 (7 + j)) (hKP : RPlan P (I0 198)) (hf : frcOK P (I0 205)) {N : Nat} (hN : M + N ≤ 300000) : ∀ (r g k b : Nat) (mo : Int32) (J : mkI), k + r = N → r < g → MinS P C f A M k I0 J → ((k = 0 ∧ b = 0 ∧ mo = -1) ∨ (mo = nI (onK P (I0 205) C f A M b) ∧ uMax (onK P (I0 205) C f A M) k b)) → ∃ I3 b', F_X12_busiest_29 g (some 197) (nI N) (nI b) mo (nI k) (mk S J L R n) = some (nI b', mk S I3 L R n) ∧ (0 < N → uMax (onK P (I0 205) C f A M) N b') ∧ scQ I I3 ∧ ∀ j, j ≠ 22 → I3 197 j = I 197 j := by
  have hC := hB.1.1
  intro r
  induction r with
  | zero =>
    intro g k b mo J hk hg h hi
    obtain ⟨g, rfl⟩ : ∃ z, g = z + 1 := ⟨g - 1, by omega⟩
    have : k = N := by omega
    subst this
    obtain ⟨I3, q1, q2, q3, -⟩ := e_aback (L := L) (n := n) hs h1 h2 h.1
    refine ⟨I3, b, ?_, fun hN0 => ?_, q2, q3⟩
    · simp only [F_X12_busiest_29]
      rw [if_pos (nI_le (by omega) (by omega)), cv_197 hs, q1, Option.bind_some]
    · rcases hi with ⟨h, -⟩ | ⟨-, h⟩
      · omega
      · exact h
  | succ r ih =>
    intro g k b mo J hk hg h hi
    obtain ⟨g, rfl⟩ : ∃ z, g = z + 1 := ⟨g - 1, by omega⟩
    obtain ⟨J1, q1, q2, q3⟩ := e_minK (L := L) (n := n) hs hP hB hKP hf (by omega) h
    have ec := e_cnt (L := L) (n := n) hs q2.2 1
    have ec' : F_X12_callsThat (some 197) 1 (mk S J1 L R n) = some (nI (onK P (I0 205) C f A M k), mk S J1 L R n) := ec
    have lk := onK_le (P := P) (frc := I0 205) (C := C) (f := f) (A := A) (M := M) (k := k)
    simp only [F_X12_busiest_29, F_X12_busiest_61]
    rw [if_neg (nI_ge (by omega) (by omega)), cv_197 hs, q1, Option.bind_some, cv_197 hs, ec', b2_some, nI_1]
    by_cases hup : mo < nI (onK P (I0 205) C f A M k)
    · rw [if_pos hup]
      refine ih g (k + 1) k _ J1 (by omega) (by omega) q2 (.inr ⟨rfl, by omega, fun j hj => ?_, fun j hj => ?_⟩)
      · by_cases e : j = k
        · rw [e]; exact Nat.le_refl _
        · rcases hi with ⟨h, -⟩ | ⟨h, h'⟩
          · omega
          · have lb := onK_le (P := P) (frc := I0 205) (C := C) (f := f) (A := A) (M := M) (k := b)
            rw [h, nI_ltI (by omega) (by omega)] at hup
            have := h'.2.1 j (by omega)
            omega
      · rcases hi with ⟨h, -⟩ | ⟨h, h'⟩
        · omega
        · have lb := onK_le (P := P) (frc := I0 205) (C := C) (f := f) (A := A) (M := M) (k := b)
          rw [h, nI_ltI (by omega) (by omega)] at hup
          have := h'.2.1 j (by omega)
          omega
    · rw [if_neg hup]
      rcases hi with ⟨h, -, h'⟩ | ⟨h, h'⟩
      · rw [h'] at hup
        exfalso
        apply hup
        rw [Int32.lt_iff_toInt_lt, nI_toInt (by omega)]
        have : (-1 : Int32).toInt = -1 := by decide
        omega
      · have lb := onK_le (P := P) (frc := I0 205) (C := C) (f := f) (A := A) (M := M) (k := b)
        refine ih g (k + 1) b _ J1 (by omega) (by omega) q2 (.inr ⟨h, by have := h'.1; omega, fun j hj => ?_, h'.2.2⟩)
        rw [h, nI_ltI (by omega) (by omega)] at hup
        by_cases e : j = k
        · rw [e]; omega
        · exact h'.2.1 j (by omega)
end KB
/-- where the use grows a call begins -/
theorem use_grow {P : PL} (hP : PlOK P) {frc : Nat → Int32} (hf : frcOK P frc) {C : Nat} {f : Nat → Int32} {F T A D : Nat → Nat} {M n k : Nat} (h : BI P C f F T A D M) (hk : k + 1 < n) (hM : M + n ≤ 300000) (hg : onK P frc C f A M k < onK P frc C f A M (k + 1)) : ∃ c, c < C ∧ f (15 + 7 * c) = 0 ∧ A c = M + (k + 1) ∧ fin_ C (M + n) (gRun P frc C (evU f A C M n) f) (16 + 7 * c) ≠ -1 := by
  have e1 := use_on hP hf h (fun _ _ => rfl) (show k < n by omega) hM
  have e2 := use_on hP hf h (fun _ _ => rfl) hk hM
  have hh : ¬ ∀ c, c < C → ¬ (f (15 + 7 * c) = 0 ∧ A c = M + (k + 1) ∧ fin_ C (M + n) (gRun P frc C (evU f A C M n) f) (16 + 7 * c) ≠ -1) := by
    intro w
    have : onK P frc C f A M (k + 1) ≤ onK P frc C f A M k := by
      unfold onK
      rw [show M + (k + 1) + 1 = M + (k + 1) + 1 from rfl]
      rw [← e1, ← e2]
      refine evL_mono C 0 (fun d _ hd z => ?_)
      have hd' : d < C := by omega
      unfold useP at z ⊢
      simp only [Bool.and_eq_true, Bool.or_eq_true, decide_eq_true_eq] at z ⊢
      obtain ⟨z1, z2, z3, z4⟩ := z
      obtain ⟨-, -, -, ⟨e3, hA⟩, e4, -⟩ := h.1.2.2 d hd'
      have hl := h.1.lt (t := M + (k + 1)) hd' (by omega)
      have hl2 := h.1.lt (t := M + k) hd' (by omega)
      rw [e3, nI_ltI (by omega) (by omega)] at z3
      have z4' : M + (k + 1) < A d + D d := by
        rw [← hl, Int32.lt_iff_toInt_lt]; rw [Int32.le_iff_toInt_le] at z4; omega
      have hA' : A d ≠ M + (k + 1) := by
        intro q
        rcases z1 with z1 | z1
        · exact w d hd' ⟨z1, q, z2⟩
        · have := (h.2.2.2.1 d hd' z1).2; omega
      refine ⟨z1, z2, ?_, ?_⟩
      · rw [e3, nI_ltI (by omega) (by omega)]; omega
      · have := hl2.mpr (by omega)
        rw [Int32.lt_iff_toInt_lt] at this; rw [Int32.le_iff_toInt_le]; omega
    omega
  have : ∃ c, c < C ∧ (f (15 + 7 * c) = 0 ∧ A c = M + (k + 1) ∧ fin_ C (M + n) (gRun P frc C (evU f A C M n) f) (16 + 7 * c) ≠ -1) := by
    apply Classical.byContradiction
    intro w
    exact hh (fun c hc q => w ⟨c, hc, q⟩)
  exact this
