/-! crossings: picks, one for each two, and numbers whose digits they are -/
abbrev XQ : Type := (Nat → Nat → Bool) × (Nat → Nat → Nat)
/-- what the picks lead to -/
def frX (Q : XQ) : Nat → (Nat → Nat) → Nat → Int32
  | 0, _ => frc0
  | i + 1, p => up1 (frX Q i p) (p i) (nI (Q.2 i (p i)))
def nwX (Q : XQ) (i : Nat) (p : Nat → Nat) (j : Nat) : Bool := Q.1 i j && decide (frX Q i p j = -1)
def vlX (Q : XQ) : Nat → (Nat → Nat) → Bool
  | 0, _ => true
  | i + 1, p => vlX Q i p && nwX Q i p (p i)
abbrev XA : Type := Nat × (Nat → Nat)
def cutX (m : Nat) (p : Nat → Nat) : Nat → Nat := fun i => if i < m then p i else 0
def lfX (m : Nat) (good : (Nat → Nat) → Bool) (p : Nat → Nat) (a : XA) : XA := if good p = true then (a.1 + 1, if a.1 = 0 then cutX m p else a.2) else a
def stX (Q : XQ) (m : Nat) (good : (Nat → Nat) → Bool) (p : Nat → Nat) (a : XA) : XA := if vlX Q m p = true then lfX m good p a else a
def eX (Q : XQ) (m C : Nat) (good : (Nat → Nat) → Bool) : Nat → Nat → (Nat → Nat) → XA → XA
  | 0, _, p, a => lfX m good p a
  | r + 1, i, p, a => (List.range' 0 C).foldl (fun a j => if nwX Q i p j = true then eX Q m C good r (i + 1) (up1 p i j) a else a) a
def dgX (m C x : Nat) : Nat → Nat := fun i => x / C ^ (m - 1 - i) % C
theorem frX_congr {Q : XQ} : ∀ (i : Nat) (p p' : Nat → Nat), (∀ j, j < i → p j = p' j) → frX Q i p = frX Q i p'
  | 0, _, _, _ => rfl
  | i + 1, p, p', h => by rw [frX, frX, frX_congr i p p' (fun j hj => h j (by omega)), h i (by omega)]
theorem vlX_congr {Q : XQ} : ∀ (i : Nat) (p p' : Nat → Nat), (∀ j, j < i → p j = p' j) → vlX Q i p = vlX Q i p'
  | 0, _, _, _ => rfl
  | i + 1, p, p', h => by
    rw [vlX, vlX, vlX_congr i p p' (fun j hj => h j (by omega)), h i (by omega)]
    unfold nwX
    rw [frX_congr i p p' (fun j hj => h j (by omega))]
theorem vlX_no {Q : XQ} {i : Nat} {p : Nat → Nat} (h : vlX Q i p = false) : ∀ k, vlX Q (i + k) p = false
  | 0 => h
  | k + 1 => by rw [show i + (k + 1) = (i + k) + 1 by omega, vlX, vlX_no h k, Bool.false_and]
theorem lfX_congr {m : Nat} {good : (Nat → Nat) → Bool} (hg : ∀ p p', (∀ j, j < m → p j = p' j) → good p = good p') {p p' : Nat → Nat} (h : ∀ j, j < m → p j = p' j) (a : XA) : lfX m good p a = lfX m good p' a := by
  have e : cutX m p = cutX m p' := funext fun i => by
    unfold cutX
    by_cases q : i < m
    · rw [if_pos q, if_pos q, h i q]
    · rw [if_neg q, if_neg q]
  unfold lfX
  rw [hg p p' h, e]
/-- blocks -/
theorem fold_blocks {α : Type} (g : α → Nat → α) (k : Nat) : ∀ (n s : Nat) (a : α), (List.range' s (n * k)).foldl g a = (List.range' 0 n).foldl (fun a j => (List.range' (s + j * k) k).foldl g a) a := by
  have key : ∀ (n c s : Nat) (a : α), (List.range' (s + c * k) (n * k)).foldl g a = (List.range' c n).foldl (fun a j => (List.range' (s + j * k) k).foldl g a) a := by
    intro n
    induction n with
    | zero => intro c s a; rw [Nat.zero_mul]; rfl
    | succ n ih =>
      intro c s a
      rw [List.range'_succ, List.foldl_cons, ← ih (c + 1) s, show (n + 1) * k = k + n * k by rw [Nat.succ_mul, Nat.add_comm], ← List.range'_append_1, List.foldl_append, show s + c * k + k = s + (c + 1) * k by rw [Nat.succ_mul]; omega]
  intro n s a
  have := key n 0 s a
  rw [Nat.zero_mul, Nat.add_zero] at this
  exact this
theorem fold_same {α : Type} {g g' : α → Nat → α} : ∀ (l : List Nat) (a : α), (∀ j ∈ l, ∀ a, g a j = g' a j) → l.foldl g a = l.foldl g' a
  | [], _, _ => rfl
  | j :: l, a, h => by
    rw [List.foldl_cons, List.foldl_cons, h j List.mem_cons_self]
    exact fold_same l _ (fun k hk => h k (List.mem_cons_of_mem _ hk))
theorem fold_idn {α : Type} {g : α → Nat → α} : ∀ (l : List Nat) (a : α), (∀ j ∈ l, ∀ a, g a j = a) → l.foldl g a = a
  | [], _, _ => rfl
  | j :: l, a, h => by
    rw [List.foldl_cons, h j List.mem_cons_self]
    exact fold_idn l _ (fun k hk => h k (List.mem_cons_of_mem _ hk))
theorem X_block {Q : XQ} {m C : Nat} (hC : 0 < C) {good : (Nat → Nat) → Bool} (hg : ∀ p p', (∀ j, j < m → p j = p' j) → good p = good p') : ∀ (r i q : Nat) (p : Nat → Nat) (a : XA), i + r = m → (∀ j, j < i → p j = q / C ^ (i - 1 - j) % C) → vlX Q i p = true → (List.range' (q * C ^ r) (C ^ r)).foldl (fun a x => stX Q m good (dgX m C x) a) a = eX Q m C good r i p a
  | 0, i, q, p, a, hi, hp, hv => by
    have him : i = m := by omega
    subst him
    rw [Nat.pow_zero, Nat.mul_one, eX]
    show stX Q i good (dgX i C q) a = _
    have e : ∀ j, j < i → dgX i C q j = p j := fun j hj => (hp j hj).symm
    unfold stX
    rw [vlX_congr i _ _ e, hv, if_pos rfl]
    exact lfX_congr hg e a
  | r + 1, i, q, p, a, hi, hp, hv => by
    rw [eX, Nat.pow_succ, Nat.mul_comm (C ^ r) C, fold_blocks]
    refine fold_same _ _ (fun j hj a => ?_)
    have hjC : j < C := by have := List.mem_range'_1.mp hj; omega
    rw [show q * (C * C ^ r) + j * C ^ r = (q * C + j) * C ^ r by rw [Nat.add_mul, Nat.mul_assoc]]
    have hp' : ∀ k, k < i + 1 → up1 p i j k = (q * C + j) / C ^ (i + 1 - 1 - k) % C := fun k hk => by
      by_cases e : k = i
      · rw [e, up1_self, show i + 1 - 1 - i = 0 by omega, Nat.pow_zero, Nat.div_one, Nat.mul_comm q C, Nat.mul_add_mod, Nat.mod_eq_of_lt hjC]
      · rw [up1_ne _ _ e, hp k (by omega), show i + 1 - 1 - k = (i - 1 - k) + 1 by omega, Nat.pow_succ, Nat.mul_comm (C ^ (i - 1 - k)) C, ← Nat.div_div_eq_div_mul, Nat.mul_comm q C, Nat.mul_add_div hC, Nat.div_eq_of_lt hjC, Nat.add_zero]
    have hnew : vlX Q (i + 1) (up1 p i j) = nwX Q i p j := by
      rw [vlX, vlX_congr i _ p (fun k hk => up1_ne _ _ (by omega)), hv, Bool.true_and, up1_self]
      unfold nwX
      rw [frX_congr i _ p (fun k hk => up1_ne _ _ (by omega))]
    by_cases e : nwX Q i p j = true
    · rw [if_pos e]
      exact X_block hC hg r (i + 1) (q * C + j) (up1 p i j) a (by omega) hp' (by rw [hnew]; exact e)
    · rw [if_neg e]
      refine fold_idn _ _ (fun x hx a => ?_)
      obtain ⟨x1, x2⟩ := List.mem_range'_1.mp hx
      have hpos : 0 < C ^ r := Nat.pow_pos hC
      have hd : x / C ^ r = q * C + j := by
        refine Nat.div_eq_of_lt_le ?_ ?_
        · omega
        · rw [Nat.succ_mul]; omega
      have hnv : vlX Q (i + 1) (dgX m C x) = false := by
        rw [vlX_congr (i + 1) _ (up1 p i j) (fun k hk => ?_), hnew]
        · simpa using e
        · rw [hp' k hk, ← hd, Nat.div_div_eq_div_mul, ← Nat.pow_add]
          show x / C ^ (m - 1 - k) % C = _
          rw [show m - 1 - k = r + (i + 1 - 1 - k) by omega]
      unfold stX
      have := vlX_no hnv r
      rw [show i + 1 + r = m by omega] at this
      rw [this, if_neg Bool.false_ne_true]
theorem X_same {Q : XQ} {m C : Nat} (hC : 0 < C) {good : (Nat → Nat) → Bool} (hg : ∀ p p', (∀ j, j < m → p j = p' j) → good p = good p') (p : Nat → Nat) (a : XA) : (List.range' 0 (C ^ m)).foldl (fun a x => stX Q m good (dgX m C x) a) a = eX Q m C good m 0 p a := by
  have := X_block (Q := Q) hC hg m 0 0 p a (by omega) (fun j h => absurd h (Nat.not_lt_zero _)) rfl
  rw [Nat.zero_mul] at this
  exact this
