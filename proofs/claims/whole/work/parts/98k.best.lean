/-! the most calls that could be on: sets of calls, and cords for them -/
abbrev KP : Type := Nat → Option Nat
/-- which calls at all, with which cords, which meet in time, which share lines -/
abbrev BQ : Type := (Nat → Bool) × (Nat → Nat → Bool) × (Nat → Nat → Bool) × (Nat → Nat → Bool)
def qE (Q : BQ) (c : Nat) : Bool := Q.1 c
def qC (Q : BQ) (k c : Nat) : Bool := Q.2.1 k c
def qO (Q : BQ) (c d : Nat) : Bool := Q.2.2.1 c d
def qS (Q : BQ) (c d : Nat) : Bool := Q.2.2.2 c d
def qSym (Q : BQ) : Prop := (∀ c d, qO Q c d = qO Q d c) ∧ ∀ c d, qS Q c d = qS Q d c
/-- beside the calls before it -/
def okB (Q : BQ) (k c : Nat) (κ : KP) : Prop := qE Q c = true ∧ qC Q k c = true ∧ ∀ d k', d < c → κ d = some k' → qO Q c d = true → qS Q c d = false ∧ k' ≠ k
def FitK (Q : BQ) (K C s : Nat) (κ : KP) : Prop := ∀ c, c < C → (s.testBit c = true → ∃ k, k < K ∧ κ c = some k ∧ okB Q k c κ) ∧ (s.testBit c = false → κ c = none)
def Fit (Q : BQ) (K C s : Nat) : Prop := s < 2 ^ C ∧ ∃ κ, FitK Q K C s κ
theorem okB_congr {Q : BQ} {k c : Nat} {κ κ' : KP} (h : ∀ d, d < c → κ d = κ' d) : okB Q k c κ ↔ okB Q k c κ' := by
  unfold okB
  constructor
  · rintro ⟨a, b, z⟩
    exact ⟨a, b, fun d k' hd e => z d k' hd (by rw [h d hd]; exact e)⟩
  · rintro ⟨a, b, z⟩
    exact ⟨a, b, fun d k' hd e => z d k' hd (by rw [← h d hd]; exact e)⟩
/-- the reference's ways -/
def Col (Q : BQ) (K : Nat) : Nat → Nat → Nat → KP → Nat → Prop
  | 0, _, s, _, s' => s' = s
  | r + 1, c, s, κ, s' => Col Q K r (c + 1) s (up1 κ c none) s' ∨ ∃ k, k < K ∧ okB Q k c κ ∧ Col Q K r (c + 1) (s ||| 2 ^ c) (up1 κ c (some k)) s'
theorem bit_lo {s c : Nat} (h : s < 2 ^ c) (d : Nat) (hd : c ≤ d) : s.testBit d = false := Nat.testBit_lt_two_pow (Nat.lt_of_lt_of_le h (Nat.pow_le_pow_right (by decide) hd))
theorem or_lt2 {s c : Nat} (h : s < 2 ^ c) : s ||| 2 ^ c < 2 ^ (c + 1) := Nat.or_lt_two_pow (Nat.lt_of_lt_of_le h (Nat.pow_le_pow_right (by decide) (by omega))) (Nat.pow_lt_pow_right (by decide) (by omega))
theorem or_bit {s c d : Nat} : (s ||| 2 ^ c).testBit d = (s.testBit d || decide (c = d)) := by rw [Nat.testBit_or, Nat.testBit_two_pow]
/-- what a way is -/
def Way (Q : BQ) (K r c s : Nat) (κ : KP) (s' : Nat) : Prop := s' < 2 ^ (c + r) ∧ (∀ d, d < c → s'.testBit d = s.testBit d) ∧ ∃ κ', (∀ d, d < c → κ' d = κ d) ∧ ∀ d, c ≤ d → d < c + r → (s'.testBit d = true → ∃ k, k < K ∧ κ' d = some k ∧ okB Q k d κ') ∧ (s'.testBit d = false → κ' d = none)
theorem col_way {Q : BQ} {K : Nat} : ∀ (r c s : Nat) (κ : KP) (s' : Nat), s < 2 ^ c → (Col Q K r c s κ s' ↔ Way Q K r c s κ s')
  | 0, c, s, κ, s', hs => by
    unfold Col Way
    constructor
    · rintro rfl
      exact ⟨hs, fun _ _ => rfl, κ, fun _ _ => rfl, fun d h1 h2 => by omega⟩
    · rintro ⟨h1, h2, -⟩
      apply Nat.eq_of_testBit_eq
      intro d
      by_cases hd : d < c
      · exact h2 d hd
      · rw [bit_lo hs d (by omega), bit_lo (c := c) h1 d (by omega)]
  | r + 1, c, s, κ, s', hs => by
    have hs1 : s < 2 ^ (c + 1) := Nat.lt_of_lt_of_le hs (Nat.pow_le_pow_right (by decide) (by omega))
    unfold Col
    rw [col_way r (c + 1) s (up1 κ c none) s' hs1]
    have ek : ∀ k, Col Q K r (c + 1) (s ||| 2 ^ c) (up1 κ c (some k)) s' ↔ Way Q K r (c + 1) (s ||| 2 ^ c) (up1 κ c (some k)) s' := fun k => col_way r (c + 1) _ _ s' (or_lt2 hs)
    simp only [ek]
    unfold Way
    constructor
    · rintro (⟨h1, h2, κ', h3, h4⟩ | ⟨k, hk, hok, h1, h2, κ', h3, h4⟩)
      · refine ⟨by rw [show c + (r + 1) = c + 1 + r by omega]; exact h1, fun d hd => h2 d (by omega), κ', fun d hd => by rw [h3 d (by omega), up1_ne _ _ (by omega)], fun d a b => ?_⟩
        by_cases e : d = c
        · subst e
          have hb : s'.testBit d = false := by rw [h2 d (by omega), bit_lo hs d (Nat.le_refl _)]
          have hκ : κ' d = none := by rw [h3 d (by omega), up1_self]
          exact ⟨fun z => (by rw [hb] at z; cases z), fun _ => hκ⟩
        · exact h4 d (by omega) (by omega)
      · refine ⟨by rw [show c + (r + 1) = c + 1 + r by omega]; exact h1, fun d hd => by rw [h2 d (by omega), or_bit, decide_eq_false (by omega), Bool.or_false], κ', fun d hd => by rw [h3 d (by omega), up1_ne _ _ (by omega)], fun d a b => ?_⟩
        by_cases e : d = c
        · subst e
          have hb : s'.testBit d = true := by rw [h2 d (by omega), or_bit, decide_eq_true rfl, Bool.or_true]
          have hκ : κ' d = some k := by rw [h3 d (by omega), up1_self]
          exact ⟨fun _ => ⟨k, hk, hκ, (okB_congr (fun e he => by rw [h3 e (by omega), up1_ne _ _ (by omega)])).mpr hok⟩, fun z => (by rw [hb] at z; cases z)⟩
        · exact h4 d (by omega) (by omega)
    · rintro ⟨h1, h2, κ', h3, h4⟩
      obtain ⟨y1, y2⟩ := h4 c (Nat.le_refl _) (by omega)
      cases hb : s'.testBit c with
      | false =>
        left
        have hκ := y2 hb
        refine ⟨by rw [show c + 1 + r = c + (r + 1) by omega]; exact h1, fun d hd => ?_, κ', fun d hd => ?_, fun d a b => h4 d (by omega) (by omega)⟩
        · by_cases e : d = c
          · rw [e, hb, bit_lo hs c (Nat.le_refl _)]
          · exact h2 d (by omega)
        · by_cases e : d = c
          · rw [e, up1_self]; exact hκ
          · rw [up1_ne _ _ e]; exact h3 d (by omega)
      | true =>
        right
        obtain ⟨k, hk, hκ, hok⟩ := y1 hb
        refine ⟨k, hk, (okB_congr (fun e he => h3 e he)).mp hok, by rw [show c + 1 + r = c + (r + 1) by omega]; exact h1, fun d hd => ?_, κ', fun d hd => ?_, fun d a b => h4 d (by omega) (by omega)⟩
        · rw [or_bit]
          by_cases e : d = c
          · rw [e, hb, decide_eq_true rfl, Bool.or_true]
          · rw [decide_eq_false (fun z => e z.symm), Bool.or_false]; exact h2 d (by omega)
        · by_cases e : d = c
          · rw [e, up1_self]; exact hκ
          · rw [up1_ne _ _ e]; exact h3 d (by omega)
theorem col_fit {Q : BQ} {K C s : Nat} : Col Q K C 0 0 (fun _ => none) s ↔ Fit Q K C s := by
  rw [col_way C 0 0 _ s (by decide)]
  unfold Way Fit FitK
  rw [Nat.zero_add]
  constructor
  · rintro ⟨h1, -, κ, -, h4⟩
    exact ⟨h1, κ, fun c hc => h4 c (Nat.zero_le _) hc⟩
  · rintro ⟨h1, κ, h4⟩
    exact ⟨h1, fun d hd => absurd hd (Nat.not_lt_zero _), κ, fun d hd => absurd hd (Nat.not_lt_zero _), fun d _ hd => h4 d hd⟩
theorem col_size {Q : BQ} {K : Nat} : ∀ (r c s : Nat) (κ : KP) (s' : Nat), s < 2 ^ c → c + r ≤ 10 → Col Q K r c s κ s' → s' < 1024 ∧ pcn s' ≤ pcn s + r
  | 0, c, s, κ, s', hs, hc, h => by
    unfold Col at h
    subst h
    have : 2 ^ c ≤ 2 ^ 10 := Nat.pow_le_pow_right (by decide) (by omega)
    exact ⟨by omega, by omega⟩
  | r + 1, c, s, κ, s', hs, hc, h => by
    have hp : 2 ^ c ≤ 2 ^ 10 := Nat.pow_le_pow_right (by decide) (by omega)
    have hs1 : s < 2 ^ (c + 1) := Nat.lt_of_lt_of_le hs (Nat.pow_le_pow_right (by decide) (by omega))
    unfold Col at h
    rcases h with h | ⟨k, -, -, h⟩
    · obtain ⟨a, b⟩ := col_size r (c + 1) s _ s' hs1 (by omega) h
      exact ⟨a, by omega⟩
    · obtain ⟨a, b⟩ := col_size r (c + 1) _ _ s' (or_lt2 hs) (by omega) h
      have := (pcn_or s (by omega) c (by omega) (bit_lo hs c (Nat.le_refl _))).2
      exact ⟨a, by omega⟩
/-! what is best so far -/
abbrev BA : Type := Option (Nat × Nat)
def GeA : BA → BA → Prop
  | _, none => True
  | none, some _ => False
  | some p, some q => q.1 < p.1 ∨ (q.1 = p.1 ∧ p.2 ≤ q.2)
theorem GeA.rf : ∀ a : BA, GeA a a
  | none => trivial
  | some _ => .inr ⟨rfl, Nat.le_refl _⟩
theorem GeA.tr : ∀ {a b c : BA}, GeA a b → GeA b c → GeA a c
  | _, _, none, _, _ => by simp [GeA]
  | none, none, some _, _, h => h
  | none, some _, some _, h, _ => h.elim
  | some _, none, some _, _, h => h.elim
  | some p, some q, some z, h1, h2 => by
    simp only [GeA] at *
    omega
theorem GeA.anti {p q : Nat × Nat} (h1 : GeA (some p) (some q)) (h2 : GeA (some q) (some p)) : p = q := by
  simp only [GeA] at *
  have a : p.1 = q.1 := by omega
  have b : p.2 = q.2 := by omega
  exact Prod.ext a b
def lfA (s : Nat) : BA → BA
  | none => some (pcn s, s)
  | some p => if p.1 < pcn s ∨ (p.1 = pcn s ∧ s < p.2) then some (pcn s, s) else some p
theorem lfA_ok (s : Nat) : ∀ a : BA, GeA (lfA s a) a ∧ GeA (lfA s a) (some (pcn s, s)) ∧ (lfA s a = a ∨ lfA s a = some (pcn s, s))
  | none => ⟨trivial, GeA.rf _, .inr rfl⟩
  | some p => by
    have e0 : lfA s (some p) = if p.1 < pcn s ∨ (p.1 = pcn s ∧ s < p.2) then some (pcn s, s) else some p := rfl
    rw [e0]
    by_cases h : p.1 < pcn s ∨ (p.1 = pcn s ∧ s < p.2)
    · rw [if_pos h]
      refine ⟨?_, GeA.rf _, .inr rfl⟩
      simp only [GeA]; omega
    · rw [if_neg h]
      refine ⟨GeA.rf _, ?_, .inl rfl⟩
      simp only [GeA]; omega
/-- after a search over some sets -/
def PostA (a a' : BA) (X : Nat → Prop) : Prop := GeA a' a ∧ (a' = a ∨ ∃ s, X s ∧ a' = some (pcn s, s)) ∧ ∀ s, X s → GeA a' (some (pcn s, s))
theorem PostA.seq {a b c : BA} {X Y : Nat → Prop} (h1 : PostA a b X) (h2 : PostA b c Y) : PostA a c (fun s => X s ∨ Y s) := by
  obtain ⟨x1, x2, x3⟩ := h1
  obtain ⟨y1, y2, y3⟩ := h2
  refine ⟨y1.tr x1, ?_, fun s h => h.elim (fun q => y1.tr (x3 s q)) (fun q => y3 s q)⟩
  rcases y2 with rfl | ⟨s, q, e⟩
  · rcases x2 with rfl | ⟨s, q, e⟩
    · exact .inl rfl
    · exact .inr ⟨s, .inl q, e⟩
  · exact .inr ⟨s, .inr q, e⟩
theorem PostA.nil {a : BA} : PostA a a (fun _ => False) := ⟨GeA.rf _, .inl rfl, fun _ h => h.elim⟩
theorem PostA.iff {a b : BA} {X Y : Nat → Prop} (h : PostA a b X) (e : ∀ s, X s ↔ Y s) : PostA a b Y := ⟨h.1, h.2.1.elim .inl (fun ⟨s, q, z⟩ => .inr ⟨s, (e s).mp q, z⟩), fun s q => h.2.2 s ((e s).mpr q)⟩
/-- two searches over the same sets, one of which has something -/
theorem PostA.uniq {b c : BA} {X : Nat → Prop} {s0 : Nat} (hX : X s0) (h1 : PostA none b X) (h2 : PostA none c X) : b = c := by
  obtain ⟨-, x2, x3⟩ := h1
  obtain ⟨-, y2, y3⟩ := h2
  rcases x2 with rfl | ⟨s, q, rfl⟩
  · exact (x3 s0 hX).elim
  · rcases y2 with rfl | ⟨t, z, rfl⟩
    · exact (y3 s0 hX).elim
    · have := GeA.anti (x3 t z) (y3 s q)
      rw [this]
/-- the reference's search -/
def okBb (Q : BQ) (k c : Nat) (κ : KP) : Bool := qE Q c && (qC Q k c && (List.range c).all fun d => match κ d with
  | none => true
  | some k' => !(qO Q c d && (qS Q c d || decide (k' = k))))
theorem okBb_iff {Q : BQ} {k c : Nat} {κ : KP} : okBb Q k c κ = true ↔ okB Q k c κ := by
  unfold okBb okB
  rw [Bool.and_eq_true, Bool.and_eq_true, List.all_eq_true]
  constructor
  · rintro ⟨h1, h2, h3⟩
    refine ⟨h1, h2, fun d k' hd e ho => ?_⟩
    have := h3 d (List.mem_range.mpr hd)
    rw [e, ho] at this
    simp only [Bool.true_and, Bool.not_eq_true', Bool.or_eq_false_iff, decide_eq_false_iff_not] at this
    exact this
  · rintro ⟨h1, h2, h3⟩
    refine ⟨h1, h2, fun d hd => ?_⟩
    cases e : κ d with
    | none => rfl
    | some k' =>
      cases ho : qO Q c d with
      | false => rfl
      | true =>
        obtain ⟨a, b⟩ := h3 d k' (List.mem_range.mp hd) e ho
        simp [a, b]
def prn (s m : Nat) : BA → Bool
  | none => false
  | some p => decide (pcn s + m < p.1)
def gC (Q : BQ) (K : Nat) : Nat → Nat → Nat → KP → BA → BA
  | 0, _, s, _, a => lfA s a
  | r + 1, c, s, κ, a => if prn s (r + 1) a = true then a else (List.range' 0 K).foldl (fun a k => if okBb Q k c κ = true then gC Q K r (c + 1) (s ||| 2 ^ c) (up1 κ c (some k)) a else a) (gC Q K r (c + 1) s (up1 κ c none) a)
theorem post_fold {f : BA → Nat → BA} {X : Nat → Nat → Prop} (h : ∀ a k, PostA a (f a k) (X k)) : ∀ (l : List Nat) (a : BA), PostA a (l.foldl f a) (fun s => ∃ k, k ∈ l ∧ X k s)
  | [], a => PostA.nil.iff (fun s => ⟨fun q => q.elim, fun ⟨k, q, _⟩ => absurd q (List.not_mem_nil)⟩)
  | k :: l, a => ((h a k).seq (post_fold h l (f a k))).iff (fun s => ⟨fun q => q.elim (fun z => ⟨k, List.mem_cons_self, z⟩) (fun ⟨j, q, z⟩ => ⟨j, List.mem_cons_of_mem _ q, z⟩), fun ⟨j, q, z⟩ => (List.mem_cons.mp q).elim (fun e => .inl (e ▸ z)) (fun e => .inr ⟨j, e, z⟩)⟩)
theorem gC_post {Q : BQ} {K : Nat} : ∀ (r c s : Nat) (κ : KP) (a : BA), s < 2 ^ c → c + r ≤ 10 → PostA a (gC Q K r c s κ a) (Col Q K r c s κ)
  | 0, c, s, κ, a, hs, hc => by
    obtain ⟨h1, h2, h3⟩ := lfA_ok s a
    refine ⟨h1, h3.elim .inl (fun e => .inr ⟨s, rfl, e⟩), fun s' h => ?_⟩
    have : s' = s := h
    rw [this]; exact h2
  | r + 1, c, s, κ, a, hs, hc => by
    have hs1 : s < 2 ^ (c + 1) := Nat.lt_of_lt_of_le hs (Nat.pow_le_pow_right (by decide) (by omega))
    rw [gC]
    by_cases e : prn s (r + 1) a = true
    · rw [if_pos e]
      refine ⟨GeA.rf _, .inl rfl, fun s' h => ?_⟩
      have := (col_size (r + 1) c s κ s' hs hc h).2
      cases a with
      | none => exact absurd e (by simp [prn])
      | some p =>
        simp only [prn, decide_eq_true_eq] at e
        simp only [GeA]; omega
    · rw [if_neg e]
      have h1 := gC_post (Q := Q) (K := K) r (c + 1) s (up1 κ c none) a hs1 (by omega)
      have h2 := post_fold (X := fun k s' => okB Q k c κ ∧ Col Q K r (c + 1) (s ||| 2 ^ c) (up1 κ c (some k)) s') (f := fun a k => if okBb Q k c κ = true then gC Q K r (c + 1) (s ||| 2 ^ c) (up1 κ c (some k)) a else a) (fun a k => by
        by_cases z : okBb Q k c κ = true
        · show PostA a (if okBb Q k c κ = true then gC Q K r (c + 1) (s ||| 2 ^ c) (up1 κ c (some k)) a else a) _
          rw [if_pos z]
          exact (gC_post r (c + 1) (s ||| 2 ^ c) (up1 κ c (some k)) a (or_lt2 hs) (by omega)).iff (fun s' => ⟨fun q => ⟨okBb_iff.mp z, q⟩, fun q => q.2⟩)
        · show PostA a (if okBb Q k c κ = true then gC Q K r (c + 1) (s ||| 2 ^ c) (up1 κ c (some k)) a else a) _
          rw [if_neg z]
          exact PostA.nil.iff (fun s' => ⟨fun q => q.elim, fun q => absurd (okBb_iff.mpr q.1) z⟩)) (List.range' 0 K) (gC Q K r (c + 1) s (up1 κ c none) a)
      refine (h1.seq h2).iff (fun s' => ?_)
      rw [Col]
      constructor
      · rintro (q | ⟨k, hk, q1, q2⟩)
        · exact .inl q
        · exact .inr ⟨k, by have := List.mem_range'_1.mp hk; omega, q1, q2⟩
      · rintro (q | ⟨k, hk, q1, q2⟩)
        · exact .inl q
        · exact .inr ⟨k, List.mem_range'_1.mpr ⟨Nat.zero_le _, by omega⟩, q1, q2⟩
theorem gC_fit {Q : BQ} {K C : Nat} (hC : C ≤ 10) : PostA none (gC Q K C 0 0 (fun _ => none) none) (Fit Q K C) := (gC_post C 0 0 _ none (by decide) (by omega)).iff (fun s => col_fit)
theorem fit_0 {Q : BQ} {K C : Nat} : Fit Q K C 0 := ⟨Nat.two_pow_pos _, fun _ => none, fun c _ => ⟨fun h => (by rw [Nat.zero_testBit] at h; cases h), fun _ => rfl⟩⟩
/-! the class's search -/
def noC (Q : BQ) (C s c : Nat) : Bool := (List.range C).all fun d => !(decide (d ≠ c) && (s.testBit d && (qO Q c d && qS Q c d)))
/-- no two calls of a set want one line at one time -/
def noT (Q : BQ) (C s : Nat) : Bool := !((List.range' 0 10).any fun c => s.testBit c && !noC Q C s c)
def freeB (Q : BQ) (k c : Nat) (κ : KP) : Bool := (List.range c).all fun d => !(decide (κ d = some k) && qO Q c d)
def fB (Q : BQ) (K s : Nat) : Nat → Nat → KP → Bool
  | 0, _, _ => true
  | r + 1, c, κ => if s.testBit c = true then (List.range' 0 K).any (fun k => (qE Q c && qC Q k c) && (freeB Q k c κ && fB Q K s r (c + 1) (up1 κ c (some k)))) else fB Q K s r (c + 1) (up1 κ c none)
theorem noC_iff {Q : BQ} {C s c : Nat} : noC Q C s c = true ↔ ∀ d, d < C → d ≠ c → s.testBit d = true → qO Q c d = true → qS Q c d = false := by
  unfold noC
  rw [List.all_eq_true]
  constructor
  · intro h d hd hne hb ho
    have := h d (List.mem_range.mpr hd)
    rw [hb, ho, decide_eq_true hne] at this
    simpa using this
  · intro h d hd
    by_cases hne : d = c
    · simp [hne]
    · cases hb : s.testBit d with
      | false => simp
      | true =>
        cases ho : qO Q c d with
        | false => simp
        | true => simp [h d (List.mem_range.mp hd) hne hb ho]
theorem noT_iff {Q : BQ} {C s : Nat} (hC : C ≤ 10) (hs : s < 2 ^ C) : noT Q C s = true ↔ ∀ c, c < C → s.testBit c = true → noC Q C s c = true := by
  unfold noT
  rw [Bool.not_eq_true', List.any_eq_false]
  constructor
  · intro h c hc hb
    have := h c (List.mem_range'_1.mpr ⟨Nat.zero_le _, by omega⟩)
    rw [hb, Bool.true_and] at this
    simpa using this
  · intro h c hc
    cases hb : s.testBit c with
    | false => simp
    | true =>
      have hcC : c < C := by
        refine Nat.lt_of_not_le (fun q => ?_)
        rw [bit_lo hs c q] at hb; cases hb
      rw [h c hcC hb]; simp
theorem freeB_iff {Q : BQ} {k c : Nat} {κ : KP} : freeB Q k c κ = true ↔ ∀ d, d < c → κ d = some k → qO Q c d = false := by
  unfold freeB
  rw [List.all_eq_true]
  constructor
  · intro h d hd e
    have := h d (List.mem_range.mpr hd)
    rw [decide_eq_true e] at this
    simpa using this
  · intro h d hd
    by_cases e : κ d = some k
    · simp [h d (List.mem_range.mp hd) e]
    · simp [e]
/-- a call of a set, as the class asks -/
def okF (Q : BQ) (K s c : Nat) (κ : KP) : Prop := (s.testBit c = true → ∃ k, k < K ∧ κ c = some k ∧ (qE Q c = true ∧ qC Q k c = true) ∧ ∀ d, d < c → κ d = some k → qO Q c d = false) ∧ (s.testBit c = false → κ c = none)
theorem fB_iff {Q : BQ} {K s : Nat} : ∀ (r c : Nat) (κ : KP), fB Q K s r c κ = true ↔ ∃ κ', (∀ d, d < c → κ' d = κ d) ∧ ∀ d, c ≤ d → d < c + r → okF Q K s d κ'
  | 0, c, κ => ⟨fun _ => ⟨κ, fun _ _ => rfl, fun d h1 h2 => by omega⟩, fun _ => rfl⟩
  | r + 1, c, κ => by
    rw [fB]
    cases hb : s.testBit c with
    | false =>
      rw [if_neg Bool.false_ne_true, fB_iff r (c + 1)]
      constructor
      · rintro ⟨κ', h1, h2⟩
        refine ⟨κ', fun d hd => by rw [h1 d (by omega), up1_ne _ _ (by omega)], fun d a b => ?_⟩
        by_cases e : d = c
        · subst e
          exact ⟨fun z => (by rw [hb] at z; cases z), fun _ => by rw [h1 d (by omega), up1_self]⟩
        · exact h2 d (by omega) (by omega)
      · rintro ⟨κ', h1, h2⟩
        refine ⟨κ', fun d hd => ?_, fun d a b => h2 d (by omega) (by omega)⟩
        by_cases e : d = c
        · rw [e, up1_self]; exact (h2 c (Nat.le_refl _) (by omega)).2 hb
        · rw [up1_ne _ _ e]; exact h1 d (by omega)
    | true =>
      rw [if_pos rfl, List.any_eq_true]
      constructor
      · rintro ⟨k, hk, h3⟩
        simp only [Bool.and_eq_true] at h3
        obtain ⟨⟨q1, q2⟩, q3, q4⟩ := h3
        obtain ⟨κ', h1, h2⟩ := (fB_iff r (c + 1) _).mp q4
        refine ⟨κ', fun d hd => by rw [h1 d (by omega), up1_ne _ _ (by omega)], fun d a b => ?_⟩
        by_cases e : d = c
        · subst e
          exact ⟨fun _ => ⟨k, by have := List.mem_range'_1.mp hk; omega, by rw [h1 d (by omega), up1_self], ⟨q1, q2⟩, fun e he z => freeB_iff.mp q3 e he (by rw [h1 e (by omega), up1_ne _ _ (by omega)] at z; exact z)⟩, fun z => (by rw [hb] at z; cases z)⟩
        · exact h2 d (by omega) (by omega)
      · rintro ⟨κ', h1, h2⟩
        obtain ⟨k, hk, hκ, ⟨q1, q2⟩, q3⟩ := (h2 c (Nat.le_refl _) (by omega)).1 hb
        refine ⟨k, List.mem_range'_1.mpr ⟨Nat.zero_le _, by omega⟩, ?_⟩
        simp only [Bool.and_eq_true]
        refine ⟨⟨q1, q2⟩, freeB_iff.mpr (fun d hd z => q3 d hd (by rw [h1 d hd]; exact z)), (fB_iff r (c + 1) _).mpr ⟨κ', fun d hd => ?_, fun d a b => h2 d (by omega) (by omega)⟩⟩
        by_cases e : d = c
        · rw [e, up1_self]; exact hκ
        · rw [up1_ne _ _ e]; exact h1 d (by omega)
theorem fB_fit {Q : BQ} (hQ : qSym Q) {K C s : Nat} (hC : C ≤ 10) (hs : s < 2 ^ C) : (noT Q C s && fB Q K s C 0 (fun _ => none)) = true ↔ Fit Q K C s := by
  rw [Bool.and_eq_true, noT_iff hC hs, fB_iff]
  unfold Fit FitK
  constructor
  · rintro ⟨h0, κ, -, h⟩
    refine ⟨hs, κ, fun c hc => ?_⟩
    obtain ⟨h1, h2⟩ := h c (Nat.zero_le _) (by omega)
    refine ⟨fun hb => ?_, h2⟩
    obtain ⟨k, hk, hκ, ⟨q1, q2⟩, q3⟩ := h1 hb
    refine ⟨k, hk, hκ, q1, q2, fun d k' hd e ho => ?_⟩
    have hbd : s.testBit d = true := by
      cases z : s.testBit d with
      | true => rfl
      | false => have := (h d (Nat.zero_le _) (by omega)).2 z; rw [this] at e; cases e
    refine ⟨noC_iff.mp (h0 c hc hb) d (by omega) (by omega) hbd ho, fun ek => ?_⟩
    rw [ek] at e
    rw [q3 d hd e] at ho; cases ho
  · rintro ⟨-, κ, h⟩
    refine ⟨fun c hc hb => noC_iff.mpr (fun d hd hne hbd ho => ?_), κ, fun d hd => absurd hd (Nat.not_lt_zero _), fun c _ hc => ?_⟩
    · obtain ⟨k, hk, hκ, q1, q2, q3⟩ := (h c hc).1 hb
      obtain ⟨k', hk', hκ', p1, p2, p3⟩ := (h d hd).1 hbd
      rcases Nat.lt_or_gt_of_ne hne with z | z
      · exact (q3 d k' z hκ' ho).1
      · rw [hQ.2]
        exact (p3 c k z hκ (by rw [hQ.1]; exact ho)).1
    · have hc' : c < C := by omega
      obtain ⟨h1, h2⟩ := h c hc'
      refine ⟨fun hb => ?_, h2⟩
      obtain ⟨k, hk, hκ, q1, q2, q3⟩ := h1 hb
      refine ⟨k, hk, hκ, ⟨q1, q2⟩, fun d hd e => ?_⟩
      cases ho : qO Q c d with
      | false => rfl
      | true => exact absurd rfl (q3 d k hd e ho).2
/-- the class's sets one after another -/
def cC (p : Nat → Bool) : Nat → Nat → Nat × Nat → Nat × Nat
  | 0, _, a => a
  | r + 1, s, a => cC p r (s + 1) (if a.1 < pcn s ∧ p s = true then (pcn s, s) else a)
theorem cC_post {p : Nat → Bool} : ∀ (r s : Nat) (a : Nat × Nat) (X : Nat → Prop), (∀ t, X t → t < s) → (∃ t, X t ∧ a = (pcn t, t)) → (∀ t, X t → GeA (some a) (some (pcn t, t))) → PostA none (some (cC p r s a)) (fun t => X t ∨ (s ≤ t ∧ t < s + r ∧ p t = true))
  | 0, s, a, X, h1, ⟨t, h2, h3⟩, h4 => ⟨trivial, .inr ⟨t, .inl h2, by rw [h3]; rfl⟩, fun t h => h.elim (h4 t) (fun q => by omega)⟩
  | r + 1, s, a, X, h1, h2, h4 => by
    rw [cC]
    have key := cC_post (p := p) r (s + 1) (if a.1 < pcn s ∧ p s = true then (pcn s, s) else a) (fun t => X t ∨ (t = s ∧ p s = true)) (fun t h => h.elim (fun q => by have := h1 t q; omega) (fun q => by omega)) ?_ ?_
    · refine key.iff (fun t => ?_)
      constructor
      · rintro ((q | ⟨q, z⟩) | ⟨q1, q2, q3⟩)
        · exact .inl q
        · exact .inr ⟨by omega, by omega, by rw [q]; exact z⟩
        · exact .inr ⟨by omega, by omega, q3⟩
      · rintro (q | ⟨q1, q2, q3⟩)
        · exact .inl (.inl q)
        · by_cases e : t = s
          · exact .inl (.inr ⟨e, by rw [← e]; exact q3⟩)
          · exact .inr ⟨by omega, by omega, q3⟩
    · obtain ⟨t, h2, h3⟩ := h2
      by_cases e : a.1 < pcn s ∧ p s = true
      · rw [if_pos e]; exact ⟨s, .inr ⟨rfl, e.2⟩, rfl⟩
      · rw [if_neg e]; exact ⟨t, .inl h2, h3⟩
    · intro t ht
      by_cases e : a.1 < pcn s ∧ p s = true
      · rw [if_pos e]
        rcases ht with q | ⟨q, -⟩
        · have := h4 t q
          simp only [GeA] at this ⊢
          omega
        · rw [q]; exact GeA.rf _
      · rw [if_neg e]
        rcases ht with q | ⟨q, z⟩
        · exact h4 t q
        · rw [q]
          obtain ⟨t0, h2, h3⟩ := h2
          have := h1 t0 h2
          rw [h3] at e ⊢
          simp only [GeA] at *
          have : ¬ pcn t0 < pcn s := fun y => e ⟨y, z⟩
          omega
/-- both find the same -/
theorem best_same {Q : BQ} (hQ : qSym Q) {K C : Nat} (hC : C ≤ 10) {p : Nat → Bool} (hp : ∀ s, s < 2 ^ C → (p s = true ↔ Fit Q K C s)) : gC Q K C 0 0 (fun _ => none) none = some (cC p (2 ^ C - 1) 1 (0, 0)) := by
  have h1 := gC_fit (Q := Q) (K := K) hC
  have h2 := cC_post (p := p) (2 ^ C - 1) 1 (0, 0) (fun t => t = 0) (fun t h => by omega) ⟨0, rfl, by decide⟩ (fun t h => (by
    have e0 : pcn 0 = 0 := by decide
    rw [h, e0]; exact GeA.rf _))
  refine PostA.uniq (X := Fit Q K C) fit_0 h1 (h2.iff (fun t => ?_))
  have h2p : 1 ≤ 2 ^ C := Nat.one_le_two_pow
  constructor
  · rintro (q | ⟨q1, q2, q3⟩)
    · rw [q]; exact fit_0
    · exact (hp t (by omega)).mp q3
  · intro q
    by_cases e : t = 0
    · exact .inl e
    · exact .inr ⟨by omega, by have := q.1; omega, (hp t q.1).mpr q⟩
