/-! rules: trays of lines, rules behind one another -/
theorem lgc (a b : Int64) : (lg_cmp a b < 0) = (a.toInt < b.toInt) := by
  unfold lg_cmp
  apply propext
  by_cases h : a > b
  · rw [if_pos h]
    have : b.toInt < a.toInt := Int64.lt_iff_toInt_lt.mp h
    exact ⟨fun q => absurd q (by decide), fun q => by omega⟩
  · rw [if_neg h]
    by_cases e : a = b
    · rw [if_pos e]; subst e
      exact ⟨fun q => absurd q (by decide), fun q => by omega⟩
    · rw [if_neg e]
      have h1 : ¬ b.toInt < a.toInt := fun q => h (Int64.lt_iff_toInt_lt.mpr q)
      have h2 : ¬ a.toInt = b.toInt := fun q => e (Int64.toInt_inj.mp q)
      exact ⟨fun _ => by omega, fun _ => by decide⟩
def lnL (W : Nat) (v : Int64) : Bool := inL v 0 (nI W - 1).toInt64
def lnv (nu : Nat → Int64) (j : Nat) : Nat := (nu j).toInt.toNat
theorem lnL_d {W : Nat} (h1 : 2 ≤ W) (h2 : W ≤ 8) (v : Int64) : lnL W v = (decide (0 ≤ v.toInt) && decide (v.toInt < W)) := by
  unfold lnL inL
  have e : (nI W - 1).toInt64.toInt = (W : Int) - 1 := by
    rw [Int32.toInt_toInt64, nI_sub1 (by omega), nI_toInt (by omega)]; omega
  have e0 : (0 : Int64).toInt = 0 := by decide
  congr 1
  · rw [decide_eq_decide, Int64.le_iff_toInt_le, e0]
  · rw [decide_eq_decide, Int64.le_iff_toInt_le, e]; omega
theorem lnL_if {W : Nat} (h1 : 2 ≤ W) (h2 : W ≤ 8) (v : Int64) {α : Type} (X Y : α) : (if lg_cmp v 0 < 0 then X else if lg_cmp v (nI W).toInt64 < 0 then Y else X) = if lnL W v = true then Y else X := by
  have e : (nI W).toInt64.toInt = W := by rw [Int32.toInt_toInt64, nI_toInt (by omega)]
  have e0 : (0 : Int64).toInt = 0 := by decide
  simp only [lgc, e, e0, lnL_d h1 h2]
  by_cases q : v.toInt < 0
  · rw [if_pos q, decide_eq_false (by omega), Bool.false_and, if_neg (by decide)]
  · rw [if_neg q, decide_eq_true (by omega), Bool.true_and]
    by_cases z : v.toInt < W
    · rw [if_pos z, decide_eq_true z, if_pos rfl]
    · rw [if_neg z, decide_eq_false z, if_neg (by decide)]
theorem lnL_v {W : Nat} (h1 : 2 ≤ W) (h2 : W ≤ 8) {nu : Nat → Int64} {j : Nat} (h : lnL W (nu j) = true) : lnv nu j < W ∧ nu j = (nI (lnv nu j)).toInt64 := by
  rw [lnL_d h1 h2, Bool.and_eq_true, decide_eq_true_eq, decide_eq_true_eq] at h
  obtain ⟨a, b⟩ := h
  unfold lnv
  refine ⟨by omega, Int64.toInt_inj.mp ?_⟩
  rw [Int32.toInt_toInt64, nI_toInt (by omega)]
  omega
def allL (W : Nat) (nu : Nat → Int64) : Nat → Nat → Bool
  | 0, _ => true
  | r + 1, i => lnL W (nu i) && allL W nu r (i + 1)
theorem allL_all {W : Nat} {nu : Nat → Int64} : ∀ (r i : Nat), allL W nu r i = true → ∀ j, i ≤ j → j < i + r → lnL W (nu j) = true
  | 0, i, _, j, h1, h2 => by omega
  | r + 1, i, h, j, h1, h2 => by
    unfold allL at h
    rw [Bool.and_eq_true] at h
    rcases Nat.eq_or_lt_of_le h1 with e | e
    · exact e ▸ h.1
    · exact allL_all r (i + 1) h.2 j e (by omega)
theorem wI_n {a lo hi : Nat} (ha : a < 2147483648) (h1 : lo < 2147483648) (h2 : hi < 2147483648) : wI (nI a) (nI lo) (nI hi) = (decide (lo ≤ a) && decide (a ≤ hi)) := by
  unfold wI
  congr 1
  · rw [decide_eq_decide, Int32.lt_iff_toInt_lt, nI_toInt ha, nI_toInt h1]; omega
  · rw [decide_eq_decide, Int32.le_iff_toInt_le, nI_toInt ha, nI_toInt h2]; omega
def r3 (W ma : Nat) (nu : Nat → Int64) : Bool := decide (ma % 3 = 0) && (decide (3 ≤ ma) && decide (ma ≤ 15) && allL W nu ma 0)
def rexp (W : Nat) (l : Nat → Nat) (u v : Nat) : Nat → Nat → Bool
  | 0, _ => true
  | r + 1, i => decide ((u * l i + l (i + 1) + v) % W = l (i + 2)) && rexp W l u v r (i + 3)
def rP (W : Nat) (l : Nat → Nat) (q r : Nat) : Bool := decide (r / 10 < W) && (decide (r % 10 < W) && rexp W l (r / 10) (r % 10) q 0)
theorem rP_row {W q : Nat} {l : Nat → Nat} (u : Nat) : ∀ j, (List.range (10 * u + W + j)).filter (rP W l q) = (List.range (10 * u + W)).filter (rP W l q) ∨ 10 < W + j
  | 0 => .inl rfl
  | j + 1 => by
    rcases rP_row (W := W) (q := q) (l := l) u j with h | h
    · by_cases e : 10 < W + (j + 1)
      · exact .inr e
      · refine .inl ?_
        have hm : (10 * u + W + j) % 10 = W + j := by omega
        have hf : rP W l q (10 * u + W + j) = false := by
          unfold rP
          rw [hm, decide_eq_false (show ¬ W + j < W by omega), Bool.false_and, Bool.and_false]
        rw [← Nat.add_assoc, List.range_succ, List.filter_append, h]
        simp [hf]
    · exact .inr (by omega)
theorem rP_end {W q : Nat} {l : Nat → Nat} : ∀ j, (List.range (10 * W + j)).filter (rP W l q) = (List.range (10 * W)).filter (rP W l q)
  | 0 => rfl
  | j + 1 => by
    have hm : W ≤ (10 * W + j) / 10 := by omega
    have hf : rP W l q (10 * W + j) = false := by
      unfold rP
      rw [decide_eq_false (show ¬ (10 * W + j) / 10 < W by omega), Bool.false_and]
    rw [← Nat.add_assoc, List.range_succ, List.filter_append, rP_end j]
    simp [hf]
def rF (W : Nat) (l : Nat → Nat) (q r : Nat) : List Nat := (List.range r).filter (rP W l q)
theorem rF_s (W : Nat) (l : Nat → Nat) (q r : Nat) : rF W l q (r + 1) = rF W l q r ++ if rP W l q r = true then [r] else [] := by
  unfold rF
  rw [List.range_succ, List.filter_append]
  by_cases h : rP W l q r = true
  · simp [h]
  · simp [h]
theorem rF_row {W q : Nat} {l : Nat → Nat} (u : Nat) (h : W ≤ 10) : rF W l q (10 * u + W) = rF W l q (10 * (u + 1)) := by
  have := rP_row (W := W) (q := q) (l := l) u (10 - W)
  rcases this with e | e
  · unfold rF; rw [← e]; congr 2; omega
  · omega
theorem rF_end {W q : Nat} {l : Nat → Nat} (h : W ≤ 8) : rF W l q (10 * W) = rF W l q 80 := by
  unfold rF
  rw [← rP_end (80 - 10 * W)]; congr 2; omega
theorem rF_mem {W q r z : Nat} {l : Nat → Nat} (h : z ∈ rF W l q r) : z < r ∧ z / 10 < W ∧ z % 10 < W := by
  unfold rF at h
  rw [List.mem_filter, List.mem_range] at h
  obtain ⟨h1, h2⟩ := h
  unfold rP at h2
  simp only [Bool.and_eq_true, decide_eq_true_eq] at h2
  exact ⟨h1, h2.1, h2.2.1⟩
theorem rF_len {W q : Nat} {l : Nat → Nat} (h : W ≤ 8) : ∀ u v, v ≤ W → u ≤ 8 → (rF W l q (10 * u + v)).length ≤ 8 * u + v := by
  intro u
  induction u with
  | zero =>
    intro v
    induction v with
    | zero => intro _ _; exact Nat.le_refl 0
    | succ v ih =>
      intro h1 h2
      have := ih (by omega) h2
      rw [show 10 * 0 + (v + 1) = (10 * 0 + v) + 1 by omega, rF_s, List.length_append]
      have : (if rP W l q (10 * 0 + v) = true then [10 * 0 + v] else []).length ≤ 1 := by split <;> simp
      omega
  | succ u ihu =>
    intro v
    induction v with
    | zero =>
      intro _ h2
      have := ihu W (Nat.le_refl _) (by omega)
      rw [rF_row u (by omega)] at this
      rw [Nat.add_zero]; omega
    | succ v ih =>
      intro h1 h2
      have := ih (by omega) h2
      rw [show 10 * (u + 1) + (v + 1) = (10 * (u + 1) + v) + 1 by omega, rF_s, List.length_append]
      have : (if rP W l q (10 * (u + 1) + v) = true then [10 * (u + 1) + v] else []).length ≤ 1 := by split <;> simp
      omega
/-- counts of one value, and the greatest of them, as both sides find it -/
def rMost (cm : Nat → Nat) : List Nat → (Nat → Nat) × Nat → (Nat → Nat) × Nat
  | [], a => a
  | z :: t, a => rMost cm t (fun j => if j = cm z then a.1 j + 1 else a.1 j, max a.2 (a.1 (cm z) + 1))
theorem rMost_ok (cm : Nat → Nat) : ∀ (t : List Nat) (a : (Nat → Nat) × Nat) (B : Nat), (∀ j, a.1 j ≤ B) → a.2 ≤ B → a.2 ≤ (rMost cm t a).2 ∧ (rMost cm t a).2 ≤ B + t.length ∧ (t ≠ [] → 1 ≤ (rMost cm t a).2)
  | [], a, B, _, h2 => ⟨Nat.le_refl _, h2, fun h => absurd rfl h⟩
  | z :: t, a, B, h1, h2 => by
    have h3 := h1 (cm z)
    have := rMost_ok cm t (fun j => if j = cm z then a.1 j + 1 else a.1 j, max a.2 (a.1 (cm z) + 1)) (B + 1) (fun j => by show (if j = cm z then a.1 j + 1 else a.1 j) ≤ B + 1; have := h1 j; split <;> omega) (by show max a.2 (a.1 (cm z) + 1) ≤ B + 1; omega)
    obtain ⟨q1, q2, -⟩ := this
    have q3 : max a.2 (a.1 (cm z) + 1) ≤ (rMost cm t (fun j => if j = cm z then a.1 j + 1 else a.1 j, max a.2 (a.1 (cm z) + 1))).2 := q1
    unfold rMost
    rw [List.length_cons]
    exact ⟨by omega, by omega, fun _ => by omega⟩
def rQ (W : Nat) (l : Nat → Nat) (q r z : Nat) : List Nat := (List.range' r z).filter (rP W l q)
theorem rQ_s (W : Nat) (l : Nat → Nat) (q r z : Nat) : rQ W l q r (z + 1) = if rP W l q r = true then r :: rQ W l q (r + 1) z else rQ W l q (r + 1) z := by
  unfold rQ
  rw [List.range'_succ, List.filter_cons]
theorem rQ_80 (W : Nat) (l : Nat → Nat) (q : Nat) : rQ W l q 0 80 = rF W l q 80 := by
  unfold rQ rF
  rw [List.range_eq_range']
theorem rF_rQ (W : Nat) (l : Nat → Nat) (q : Nat) : ∀ (z r : Nat), rF W l q (r + z) = rF W l q r ++ rQ W l q r z
  | 0, r => by unfold rQ; simp
  | z + 1, r => by
    rw [show r + (z + 1) = (r + 1) + z by omega, rF_rQ W l q z (r + 1), rF_s, rQ_s, List.append_assoc]
    by_cases h : rP W l q r = true
    · rw [if_pos h, if_pos h]; rfl
    · rw [if_neg h, if_neg h]; rfl
def rcm (W F T z : Nat) : Nat := (z / 10 * F + T + z % 10) % W
/-- the call asked about: the first whose greatest count is the least -/
def askF (mo : Nat → Nat) : Nat → Nat → Int32 → Nat → Int32
  | 0, _, b, _ => b
  | r + 1, c, b, m => if mo c < m then askF mo r (c + 1) (nI c) (mo c) else askF mo r (c + 1) b m
theorem rem3 {a : Nat} (h : a < 1000000) : nI a - nI a / (3 : Int32) * (3 : Int32) = nI (a % 3) := pk_rem (a := a) (d := 3) (by omega) (by omega) (by omega)
theorem nI_div {a b : Nat} (ha : a < 2147483648) (hb : b < 2147483648) (h0 : 0 < b) : nI a / nI b = nI (a / b) := by
  apply Int32.toInt_inj.mp
  have hne : nI b ≠ -1 := nI_nm1 hb
  have hd : a / b ≤ a := Nat.div_le_self a b
  rw [Int32.toInt_div_of_ne_right _ _ hne, nI_toInt ha, nI_toInt hb, nI_toInt (by omega)]
  rfl
theorem r3_d {P : PL} (hP : PlOK P) {ma : Nat} {nu : Nat → Int64} (h : r3 (pW P) ma nu = true) : ma = 3 * (ma / 3) ∧ ma ≤ 15 ∧ 3 ≤ ma ∧ ∀ j, j < ma → lnv nu j < pW P ∧ nu j = (nI (lnv nu j)).toInt64 := by
  unfold r3 at h
  simp only [Bool.and_eq_true, decide_eq_true_eq] at h
  obtain ⟨h1, ⟨h2, h3⟩, h4⟩ := h
  exact ⟨by omega, h3, h2, fun j hj => lnL_v hP.1 hP.2.1 (allL_all ma 0 h4 j (by omega) (by omega))⟩
