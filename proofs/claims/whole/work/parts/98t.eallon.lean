/-! crossings: do all of these come on -/
abbrev FB : Type := PL × Nat × (Nat → Int32) × (Nat → Nat) × Nat
def onX (B : FB) (fr : Nat → Int32) (k d : Nat) : Bool := decide (d ∈ evU B.2.2.1 B.2.2.2.1 B.2.1 B.2.2.2.2 k ∧ d ∉ gLost B.1 fr B.2.1 (evU B.2.2.1 B.2.2.2.1 B.2.1 B.2.2.2.2 k) B.2.2.1)
theorem onX_up {B : FB} {fr : Nat → Int32} {k d : Nat} (h : onX B fr k d = true) : onX B fr (k + 1) d = true := by
  unfold onX at *
  rw [decide_eq_true_eq] at *
  obtain ⟨h1, h2⟩ := h
  rw [evU_tail]
  refine ⟨List.mem_append_left _ h1, fun q => ?_⟩
  rw [gLost_app] at q
  rcases List.mem_append.mp q with q | q
  · exact h2 q
  · have a1 := (evU_mem.mp h1).2.2.2
    have a2 := (evM_mem.mp (gLost_mem _ _ q)).2.2
    omega
theorem onX_mono {B : FB} {fr : Nat → Int32} {k d : Nat} (h : onX B fr k d = true) : ∀ j, onX B fr (k + j) d = true
  | 0 => h
  | j + 1 => onX_up (onX_mono h j)
theorem onX_end {P : PL} {C : Nat} {f : Nat → Int32} {F T A D : Nat → Nat} {M : Nat} (hB : BI P C f F T A D M) {fr : Nat → Int32} {d : Nat} (hd : d < C) (h0 : f (15 + 7 * d) = 0) : onX (P, C, f, A, M) fr 1200 d = decide (d ∉ gLost P fr C (evU f A C M 1200) f) := by
  unfold onX
  rw [decide_eq_decide]
  refine ⟨fun h => h.2, fun h => ⟨evU_mem.mpr ⟨hd, h0, ?_, ?_⟩, h⟩⟩
  · exact (hB.2.2.2.2.1 d hd h0).1
  · have : A d ≤ M + 999 := (hB.2.2.2.2.1 d hd h0).2.1
    show A d < M + 1200
    omega
theorem onX_row {P : PL} (hP : PlOK P) {C : Nat} {f : Nat → Int32} {F T A D : Nat → Nat} {M : Nat} (hB : BI P C f F T A D M) {fr : Nat → Int32} (hf : frcOK P fr) {d : Nat} (hd : d < C) (h0 : f (15 + 7 * d) = 0) (k t : Nat) : (fin_ C t (gRun P fr C (evU f A C M k) f) (16 + 7 * d) = -1) ↔ onX (P, C, f, A, M) fr k d = false := by
  have w2 := hP.2.1
  have e16 : f (16 + 7 * d) = -1 := (hB.2.2.2.2.1 d hd h0).2.2.1
  have el : ∀ c ∈ evU f A C M k, c < C := fun c hc => (evU_mem.mp hc).1
  unfold fin_
  rw [up1_ne _ _ (by omega), ovr_ne (fun c _ => by omega)]
  unfold onX
  rw [decide_eq_false_iff_not]
  by_cases hm : d ∈ evU f A C M k
  · rcases gRun_at hP hf (evU f A C M k) f d hB.1 el evU_nodup hm with ⟨q1, q2, q3, q4⟩ | ⟨q1, q2, ⟨b, b1, b2, b3⟩, q4⟩
    · rw [q3, e16]
      exact ⟨fun _ h => h.2 q1, fun _ => rfl⟩
    · rw [b3]
      exact ⟨fun h => absurd h (nI_nm1 (by omega)), fun h => absurd ⟨hm, q1⟩ h⟩
  · rw [gRun_other hP hf (by omega) _ _ hB.1 el (fun c hc => by
      have : c ≠ d := fun e => hm (e ▸ hc)
      omega), e16]
    exact ⟨fun _ h => hm h.1, fun _ => rfl⟩
theorem pcn_m : ∀ m < 4, ∀ b < 2 ^ m, (m ≤ pcn b ↔ pcn b = m) ∧ (pcn b = m ↔ ∀ i < m, b.testBit i = true) := by decide +kernel
/-- what the search for crossings leaves -/
def kA (I I' : mkI) : Prop := (∀ a, a ≠ 197 → a ≠ 206 → a ≠ 203 → a ≠ 204 → I' a = I a) ∧ ∀ j, j ≠ 22 → I' 197 j = I 197 j
section EA
variable {S : mkS} {L : mkL} {R : mkR} {n : Nat × Nat} {P : PL} {C M : Nat} {f : Nat → Int32} {F T A D : Nat → Nat}
theorem e_aback2 (hs : St S R) {I I1 I2 : mkI} (h1 : ∀ a, a ≠ 206 → I1 a = I a) (h2 : ∀ j, j < 41 → I1 206 j = I 198 (7 + j)) (h3 : keepM I1 I2) : ∃ I3, F_X12_putsBack (some 197) (mk S I2 L R n) = some (mk S I3 L R n) ∧ kA I I3 := by
  obtain ⟨I3, q1, q2, q3, q4⟩ := e_back (L := L) (n := n) hs I2
  have ek : I3 198 = I 198 := by
    funext k
    by_cases hk : k < 7 ∨ 48 ≤ k
    · rw [q4 k hk, h3.2.2 k (by omega), h1 _ (by decide)]
    · obtain ⟨j, rfl⟩ : ∃ j, k = 7 + j := ⟨k - 7, by omega⟩
      rw [q3 j (by omega), h3.1 _ (by decide) (by decide) (by decide) (by decide), h2 j (by omega)]
  refine ⟨I3, q1, fun a z1 z2 z3 z4 => ?_, fun j hj => ?_⟩
  · by_cases e : a = 198
    · rw [e, ek]
    · rw [q2 a e, h3.1 a z1 e z3 z4, h1 a z2]
  · rw [q2 197 (by decide), h3.2.1 j hj, h1 197 (by decide)]
theorem e_on30 (hs : St S R) {k8 : Option Nat → Int32 → Int32 → Int32 → MH → Option (Int32 × MH)} {J : mkI} {p : Nat → Nat} {o : Nat → Bool} {m k : Nat} (hm : m ≤ 3) (hp : ∀ i, i < m → J 209 i = nI (p i) ∧ p i < 10 ∧ (J 198 (18 + p i) = -1 ↔ o i = false)) : ∀ (r g i b : Nat), i + r = m → r < g → F_X12_allAreOn_30 k8 g (some 197) (nI m) (nI b) (nI k) (nI i) (mk S J L R n) = k8 (some 197) (nI m) (nI (orB o (List.range' i r) b)) (nI (k + 1)) (mk S J L R n) := by
  intro r
  induction r with
  | zero =>
    intro g i b hi hg
    obtain ⟨g, rfl⟩ : ∃ y, g = y + 1 := ⟨g - 1, by omega⟩
    simp only [F_X12_allAreOn_30]
    rw [if_pos (nI_le (by omega) (by omega)), nI_1]
    rfl
  | succ r ih =>
    intro g i b hi hg
    obtain ⟨g, rfl⟩ : ∃ y, g = y + 1 := ⟨g - 1, by omega⟩
    obtain ⟨p1, p2, p3⟩ := hp i (by omega)
    have ih' := fun b => ih g (i + 1) b (by omega) (by omega)
    rw [List.range'_succ, orB]
    simp only [F_X12_allAreOn_30, F_X12_allAreOn_64]
    rw [if_neg (nI_ge (by omega) (by omega)), gr_197_0 hs, Option.bind_some, gr_197_31 hs, Option.bind_some, ai_209 hs (by omega), Option.bind_some, p1, show (18 : Int32) + nI (p i) = nI (18 + p i) from nI_add 18 _, ai_198 hs (by omega), Option.bind_some, sh1 (show i < 31 by omega), nI_or, nI_1 i, show nI b ||| (0 : Int32) = nI b by rw [show (0 : Int32) = nI 0 from rfl, nI_or, Nat.or_zero], ih', ih']
    by_cases e : J 198 (18 + p i) = -1
    · rw [if_pos e, p3.mp e, if_neg Bool.false_ne_true]
    · have : o i = true := by
        cases ho : o i with
        | true => rfl
        | false => exact absurd (p3.mpr ho) e
      rw [if_neg e, this, if_pos rfl]
def gdX (B : FB) (Q : XQ) (m : Nat) (p : Nat → Nat) : Bool := (List.range m).all fun i => decide (p i ∉ gLost B.1 (frX Q m p) B.2.1 (evU B.2.2.1 B.2.2.2.1 B.2.1 B.2.2.2.2 1200) B.2.2.1)
theorem gdX_congr {B : FB} {Q : XQ} {m : Nat} (p p' : Nat → Nat) (h : ∀ j, j < m → p j = p' j) : gdX B Q m p = gdX B Q m p' := by
  unfold gdX
  rw [frX_congr m p p' h, Bool.eq_iff_iff, List.all_eq_true, List.all_eq_true]
  constructor
  · intro q i hi; rw [← h i (List.mem_range.mp hi)]; exact q i hi
  · intro q i hi; rw [h i (List.mem_range.mp hi)]; exact q i hi
theorem e_onL (hs : St S R) (hP : PlOK P) (hB : BI P C f F T A D M) (hM : M ≤ 200000) {I I1 I0 : mkI} (h1 : ∀ a, a ≠ 206 → I1 a = I a) (h2 : ∀ j, j < 41 → I1 206 j = I 198 (7 + j)) (h3 : keepM I1 I0) (hKP : RPlan P (I0 198)) {fr : Nat → Int32} (hf : frcOK P (I0 205)) (hfr : ∀ c, c < 10 → I0 205 c = fr c) {p : Nat → Nat} {m : Nat} (hm : m ≤ 3) (hp : ∀ i, i < m → I0 209 i = nI (p i) ∧ p i < C ∧ f (15 + 7 * p i) = 0) : ∀ (r g k b : Nat) (J : mkI), k + r = 1200 → r < g → MinS P C f A M k I0 J → b < 2 ^ m → (∀ i, i < m → b.testBit i = onX (P, C, f, A, M) fr k (p i)) → ∃ I3, F_X12_allAreOn_8 g (some 197) (nI m) (nI b) (nI k) (mk S J L R n) = some (b2i ((List.range m).all fun i => onX (P, C, f, A, M) fr 1200 (p i)), mk S I3 L R n) ∧ kA I I3 := by
  have hC := hB.1.1
  have h2m : 2 ^ m ≤ 2 ^ 3 := Nat.pow_le_pow_right (by decide) hm
  have eG : ∀ k, gRun P (I0 205) C (evU f A C M k) f = gRun P fr C (evU f A C M k) f ∧ gLost P (I0 205) C (evU f A C M k) f = gLost P fr C (evU f A C M k) f := fun k => gRun_frc _ _ (fun c hc => hfr c (by have := (evU_mem.mp hc).1; omega))
  have oE : ∀ k d, onX (P, C, f, A, M) (I0 205) k d = onX (P, C, f, A, M) fr k d := fun k d => by
    unfold onX
    show decide (_ ∧ _ ∉ gLost P (I0 205) C (evU f A C M k) f) = decide (_ ∧ _ ∉ gLost P fr C (evU f A C M k) f)
    rw [(eG k).2]
  have out : ∀ (k b : Nat) (J : mkI), k ≤ 1200 → MinS P C f A M k I0 J → b < 2 ^ m → (∀ i, i < m → b.testBit i = onX (P, C, f, A, M) fr k (p i)) → (k = 1200 ∨ m ≤ pcn b) → ∃ I3, F_X12_allAreOn_78 (some 197) (nI m) (nI b) (mk S J L R n) = some (b2i ((List.range m).all fun i => onX (P, C, f, A, M) fr 1200 (p i)), mk S I3 L R n) ∧ kA I I3 := by
    intro k b J hk hJ hb ho hor
    obtain ⟨I3, q1, q2⟩ := e_aback2 (L := L) (n := n) hs h1 h2 (h3.tr hJ.1)
    obtain ⟨y1, y2⟩ := pcn_m m (by omega) b hb
    refine ⟨I3, ?_, q2⟩
    have hp10 := pcn_10 b (by omega)
    unfold F_X12_allAreOn_78 F_X12_allAreOn_95
    rw [cv_197 hs, q1, Option.bind_some, e_size (by omega), b2_some, rZ_1, rZ_0]
    have hall : (List.range m).all (fun i => onX (P, C, f, A, M) fr 1200 (p i)) = decide (pcn b = m) := by
      rw [Bool.eq_iff_iff, List.all_eq_true, decide_eq_true_eq, y2]
      constructor
      · intro h i hi
        rcases hor with e | e
        · rw [ho i hi, e]; exact h i (List.mem_range.mpr hi)
        · exact y2.mp (y1.mp e) i hi
      · intro h i hi
        have hi' := List.mem_range.mp hi
        have := h i hi'
        rw [ho i hi'] at this
        have := onX_mono this (1200 - k)
        rw [show k + (1200 - k) = 1200 by omega] at this
        exact this
    rw [hall]
    by_cases e : pcn b = m
    · rw [if_pos (by rw [e]), decide_eq_true e]
    · rw [if_neg (fun z => e ((nI_eq (by omega) (by omega)).mp z)), decide_eq_false e]
  intro r
  induction r with
  | zero =>
    intro g k b J hk hg hJ hb ho
    obtain ⟨g, rfl⟩ : ∃ y, g = y + 1 := ⟨g - 1, by omega⟩
    simp only [F_X12_allAreOn_8]
    rw [if_pos (show (1200 : Int32) ≤ nI k from nI_le (a := 1200) (by omega) (by omega))]
    exact out k b J (by omega) hJ hb ho (.inl (by omega))
  | succ r ih =>
    intro g k b J hk hg hJ hb ho
    obtain ⟨g, rfl⟩ : ∃ y, g = y + 1 := ⟨g - 1, by omega⟩
    have hp10 := pcn_10 b (by omega)
    simp only [F_X12_allAreOn_8]
    rw [if_neg (show ¬ (1200 : Int32) ≤ nI k from nI_ge (b := 1200) (by omega) (by omega)), e_size (by omega), b2_some]
    by_cases e : m ≤ pcn b
    · rw [if_pos (nI_le e (by omega))]
      exact out k b J (by omega) hJ hb ho (.inr e)
    · rw [if_neg (nI_ge (by omega) (by omega)), cv_197 hs]
      obtain ⟨J1, q1, q2, q3⟩ := e_minK (L := L) (n := n) hs hP hB hKP hf (by omega) hJ
      rw [q1, Option.bind_some]
      have hrow : ∀ i, i < m → J1 209 i = nI (p i) ∧ p i < 10 ∧ (J1 198 (18 + p i) = -1 ↔ onX (P, C, f, A, M) fr (k + 1) (p i) = false) := fun i hi => by
        obtain ⟨p1, p2, p3⟩ := hp i hi
        refine ⟨by rw [q2.1.1 _ (by decide) (by decide) (by decide) (by decide)]; exact p1, by omega, ?_⟩
        obtain ⟨-, -, -, -, -, b6, -⟩ := q2.2.2.2.2.2.2.2 (p i) p2
        rw [b6, onX_row hP hB hf p2 p3, oE]
      have h30 := e_on30 (L := L) (n := n) hs (k8 := F_X12_allAreOn_8 g) (k := k) hm hrow m mm_N 0 b (by omega) (by show m < 1000000; omega)
      refine (show F_X12_allAreOn_30 (F_X12_allAreOn_8 g) mm_N (some 197) (nI m) (nI b) (nI k) 0 (mk S J1 L R n) = _ from h30) ▸ ih g (k + 1) _ J1 (by omega) (by omega) q2 (orB_lt _ _ (fun c hc => by have := List.mem_range'_1.mp hc; omega) hb) (fun i hi => ?_)
      rw [orB_bit, decide_eq_true (List.mem_range'_1.mpr ⟨Nat.zero_le _, by omega⟩), Bool.true_and, ho i hi]
      cases z : onX (P, C, f, A, M) fr k (p i) with
      | false => rfl
      | true => rw [onX_up z]; rfl
theorem e_allOn (hs : St S R) (hP : PlOK P) (hB : BI P C f F T A D M) (hM : M ≤ 200000) {I : mkI} (hKP : RPlan P (I 198)) (hR : RBoard C f (I 198)) {Q : XQ} {p : Nat → Nat} {m : Nat} (hf : frcOK P (frX Q m p)) (hfr : ∀ c, c < 10 → I 205 c = frX Q m p c) (hm : m ≤ 3) (hp : ∀ i, i < m → I 209 i = nI (p i) ∧ p i < C ∧ f (15 + 7 * p i) = 0) : ∃ I3, F_X12_allAreOn (some 197) (nI m) (mk S I L R n) = some (b2i (gdX (P, C, f, A, M) Q m p), mk S I3 L R n) ∧ kA I I3 := by
  obtain ⟨I1, a1, a2, a3⟩ := e_aside (L := L) (n := n) hs I
  have hf1 : frcOK P (I1 205) := fun c hc => by rw [a2 _ (by decide), hfr c hc]; exact hf c hc
  obtain ⟨I3, q1, q2⟩ := e_onL (L := L) (n := n) hs hP hB hM a2 a3 keepM.rf (by rw [a2 _ (by decide)]; exact hKP) hf1 (fr := frX Q m p) (fun c hc => by rw [a2 _ (by decide)]; exact hfr c hc) hm (fun i hi => by rw [a2 _ (by decide)]; exact hp i hi) 1200 mm_N 0 0 I1 (by omega) (by show 1200 < 1000000; omega) (MinS.zero hB (by omega) (by rw [a2 _ (by decide)]; exact hR)) (Nat.two_pow_pos _) (fun i hi => by
    rw [Nat.zero_testBit]
    unfold onX
    exact (decide_eq_false (fun z => by exact absurd z.1 List.not_mem_nil)).symm)
  refine ⟨I3, ?_, q2⟩
  unfold F_X12_allAreOn
  rw [cv_197 hs, a1, Option.bind_some]
  refine (show F_X12_allAreOn_8 mm_N (some 197) (nI m) 0 0 (mk S I1 L R n) = _ from q1).trans ?_
  have : ((List.range m).all fun i => onX (P, C, f, A, M) (frX Q m p) 1200 (p i)) = gdX (P, C, f, A, M) Q m p := by
    unfold gdX
    rw [Bool.eq_iff_iff, List.all_eq_true, List.all_eq_true]
    have key : ∀ i, i ∈ List.range m → onX (P, C, f, A, M) (frX Q m p) 1200 (p i) = decide (p i ∉ gLost P (frX Q m p) C (evU f A C M 1200) f) := fun i hi => onX_end hB (hp i (List.mem_range.mp hi)).2.1 (hp i (List.mem_range.mp hi)).2.2
    constructor
    · intro q i hi; have := q i hi; rw [key i hi] at this; exact this
    · intro q i hi; rw [key i hi]; exact q i hi
  rw [this]
end EA
