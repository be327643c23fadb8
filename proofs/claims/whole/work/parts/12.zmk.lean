/-! heaps by shapes and contents -/
def fk : Nat → List Nat
  | 0 => [2, 2, 2]
  | 1 => [2, 0, 2, 2, 2, 2]
  | 2 => [2, 2, 2, 2, 2, 0]
  | 3 => [2, 0, 0]
  | 4 => [2, 2, 2, 2, 2, 0, 0, 0]
  | 5 => [2, 2]
  | 6 => [2, 2, 2, 2, 0, 0, 0, 0]
  | 7 => [2, 2, 2, 2, 2, 2, 0, 0, 0, 0, 0, 0, 0, 0, 0]
  | 8 => [0, 0, 0, 2, 2, 2, 2]
  | 9 => [2, 0, 0, 0, 0, 0]
  | 10 => [2, 0, 0]
  | 11 => [2, 0, 2, 0, 0, 2, 2, 2, 2, 2, 2, 2, 2, 2, 2, 2]
  | 12 => [2, 2, 2, 2, 0, 2, 0, 0, 0, 0, 0, 0, 0, 0, 0, 0, 0, 0, 0, 2, 2, 2, 0, 2, 2, 0, 2, 0, 0, 0, 0, 2, 2, 0, 2, 2, 2, 2, 0, 1, 1, 1, 2, 0, 2, 2, 2, 2]
  | 13 => [2, 0]
  | _ => []
def mkF (I : Nat → Int32) (L : Nat → Int64) (R : Nat → Option Nat) : Nat → List Nat → List Value
  | _, [] => []
  | k, q :: r => (match q with
    | 0 => .int (I k)
    | 1 => .long (L k)
    | _ => va_rf (R k)) :: mkF I L R (k + 1) r
def mkC (s : Nat × Nat) (I : Nat → Int32) (L : Nat → Int64) (R : Nat → Option Nat) : mm_Cl := match s.1 with
  | 0 => .inr none
  | 1 => .inl (0, s.2, .inl I)
  | 2 => .inl (1, s.2, .inr (.inl L))
  | 3 => .inl (2, s.2, .inl I)
  | 4 => .inl (3, s.2, .inl I)
  | 5 => .inl (4, s.2, .inr (.inr R))
  | 6 => .inl (5, s.2, .inr (.inr R))
  | 7 => .inl (6, s.2, .inr (.inr R))
  | 8 => .inl (7, s.2, .inl I)
  | c + 9 => .inr (some (c, mkF I L R 0 (fk c)))
abbrev mkS : Type := Nat → Nat × Nat
abbrev mkI : Type := Nat → Nat → Int32
abbrev mkL : Type := Nat → Nat → Int64
abbrev mkR : Type := Nat → Nat → Option Nat
def mk (S : mkS) (I : mkI) (L : mkL) (R : mkR) (n : Nat × Nat) : MH := (fun a => mkC (S a) (I a) (L a) (R a), n)
def up2 {α : Type} (f : Nat → Nat → α) (a k : Nat) (x : α) : Nat → Nat → α := fun b j => if b = a ∧ j = k then x else f b j
def up1 {α : Type} (f : Nat → α) (a : Nat) (x : α) : Nat → α := fun b => if b = a then x else f b
theorem up2_at {α : Type} (f : Nat → Nat → α) (a k : Nat) (x : α) (b j : Nat) : up2 f a k x b j = if b = a ∧ j = k then x else f b j := rfl
theorem up2_self {α : Type} (f : Nat → Nat → α) (a k : Nat) (x : α) : up2 f a k x a k = x := by simp [up2]
theorem up2_ne {α : Type} (f : Nat → Nat → α) {a b : Nat} (k : Nat) (x : α) (h : b ≠ a) : up2 f a k x b = f b := by funext j; simp [up2, h]
theorem up2_row {α : Type} (f : Nat → Nat → α) (a k : Nat) (x : α) : up2 f a k x a = up1 (f a) k x := by funext j; simp [up2, up1]
theorem up1_self {α : Type} (f : Nat → α) (a : Nat) (x : α) : up1 f a x a = x := by simp [up1]
theorem up1_ne {α : Type} (f : Nat → α) {a b : Nat} (x : α) (h : b ≠ a) : up1 f a x b = f b := by simp [up1, h]
theorem up2_eq1 {α : Type} (f : Nat → Nat → α) (a k : Nat) (x : α) : up2 f a k x = up1 f a (up1 (f a) k x) := by
  funext b j; by_cases h : b = a
  · subst h; simp [up2, up1]
  · simp [up2, up1, h]
section MKR
variable {S : mkS} {I : mkI} {L : mkL} {R : mkR} {n : Nat × Nat} {a b c k N : Nat} {x i : Int32} {z : Int64} {r : Option Nat}
theorem mk_1 : (mk S I L R n).1 a = mkC (S a) (I a) (L a) (R a) := rfl
theorem mk_2 : (mk S I L R n).2 = n := rfl
theorem mkF_len : ∀ (l : List Nat) (k : Nat) (I : Nat → Int32) (L : Nat → Int64) (R : Nat → Option Nat), (mkF I L R k l).length = l.length
  | [], _, _, _, _ => rfl
  | _ :: r, k, I, L, R => by simp [mkF, mkF_len r]
theorem mkF_get : ∀ (l : List Nat) (k j : Nat) (I : Nat → Int32) (L : Nat → Int64) (R : Nat → Option Nat), (mkF I L R k l)[j]? = (l[j]?).map (fun q => match q with
    | 0 => .int (I (k + j))
    | 1 => .long (L (k + j))
    | _ => va_rf (R (k + j)))
  | [], _, _, _, _, _ => by simp [mkF]
  | _ :: r, k, 0, I, L, R => by simp [mkF]
  | _ :: r, k, j + 1, I, L, R => by
    simp only [mkF, List.getElem?_cons_succ]
    rw [mkF_get r (k + 1) j I L R, show k + 1 + j = k + (j + 1) by omega]
theorem mkC_o (s : Nat × Nat) (I : Nat → Int32) (L : Nat → Int64) (R : Nat → Option Nat) (h : s.1 = c + 9) : mkC s I L R = .inr (some (c, mkF I L R 0 (fk c))) := by
  unfold mkC; rw [h]
theorem mk_oK (hs : (S a).1 = c + 9) : oK (mk S I L R n) (some a) c = true := by
  simp only [oK, mk_1, mkC_o _ _ _ _ hs, BEq.rfl]
theorem mk_cV {α : Type} {q : Option α} (hs : (S a).1 = c + 9) : cV (mk S I L R n) (some a) c q = q := by
  unfold cV; rw [if_pos (mk_oK hs)]
theorem mk_gF (hs : (S a).1 = c + 9) : gF (mk S I L R n) (some a) c k = (mkF (I a) (L a) (R a) 0 (fk c))[k]? := by
  simp only [gF, mk_1, mkC_o _ _ _ _ hs, if_true]
theorem mk_gI (hs : (S a).1 = c + 9) (hk : (fk c)[k]? = some 0) : gI (mk S I L R n) (some a) c k = some (I a k) := by
  unfold gI; rw [mk_gF hs, mkF_get, hk]; simp
theorem mk_gL (hs : (S a).1 = c + 9) (hk : (fk c)[k]? = some 1) : gL (mk S I L R n) (some a) c k = some (L a k) := by
  unfold gL; rw [mk_gF hs, mkF_get, hk]; simp
theorem mk_gR (hs : (S a).1 = c + 9) (hk : (fk c)[k]? = some 2) : gR (mk S I L R n) (some a) c k = some (R a k) := by
  unfold gR; rw [mk_gF hs, mkF_get, hk]; simp only [Nat.zero_add, Option.map_some]
  cases R a k <;> rfl
theorem mkF_setI (hk : (fk c)[k]? = some 0) : (mkF (I a) (L a) (R a) 0 (fk c)).set k (.int x) = mkF (up1 (I a) k x) (L a) (R a) 0 (fk c) := by
  apply List.ext_getElem?
  intro j
  rw [List.getElem?_set, mkF_get, mkF_get, mkF_len]
  by_cases h : k = j
  · subst h
    have hl : k < (fk c).length := by rcases List.getElem?_eq_some_iff.mp hk with ⟨w, -⟩; exact w
    rw [if_pos rfl, if_pos hl, hk]; simp [up1]
  · have h2 : j ≠ k := fun q => h q.symm
    simp [h, up1, h2]
theorem mkF_setL (hk : (fk c)[k]? = some 1) : (mkF (I a) (L a) (R a) 0 (fk c)).set k (.long z) = mkF (I a) (up1 (L a) k z) (R a) 0 (fk c) := by
  apply List.ext_getElem?
  intro j
  rw [List.getElem?_set, mkF_get, mkF_get, mkF_len]
  by_cases h : k = j
  · subst h
    have hl : k < (fk c).length := by rcases List.getElem?_eq_some_iff.mp hk with ⟨w, -⟩; exact w
    rw [if_pos rfl, if_pos hl, hk]; simp [up1]
  · have h2 : j ≠ k := fun q => h q.symm
    simp [h, up1, h2]
theorem mkF_setR (hk : (fk c)[k]? = some 2) : (mkF (I a) (L a) (R a) 0 (fk c)).set k (va_rf r) = mkF (I a) (L a) (up1 (R a) k r) 0 (fk c) := by
  apply List.ext_getElem?
  intro j
  rw [List.getElem?_set, mkF_get, mkF_get, mkF_len]
  by_cases h : k = j
  · subst h
    have hl : k < (fk c).length := by rcases List.getElem?_eq_some_iff.mp hk with ⟨w, -⟩; exact w
    rw [if_pos rfl, if_pos hl, hk]; simp [up1]
  · have h2 : j ≠ k := fun q => h q.symm
    simp [h, up1, h2]
theorem mk_hS_I {y9 : mm_Cl} {g : Nat → Int32} (h : mkC (S a) g (L a) (R a) = y9) : hS (mk S I L R n) a y9 = mk S (up1 I a g) L R n := by
  subst h
  unfold hS mk
  refine Prod.ext (funext fun b => ?_) rfl
  show (if b = a then _ else _) = _
  by_cases hb : b = a
  · subst hb; rw [if_pos rfl]; simp [up1]
  · rw [if_neg hb]; simp [up1, hb]
theorem mk_hS_L {y9 : mm_Cl} {g : Nat → Int64} (h : mkC (S a) (I a) g (R a) = y9) : hS (mk S I L R n) a y9 = mk S I (up1 L a g) R n := by
  subst h
  unfold hS mk
  refine Prod.ext (funext fun b => ?_) rfl
  show (if b = a then _ else _) = _
  by_cases hb : b = a
  · subst hb; rw [if_pos rfl]; simp [up1]
  · rw [if_neg hb]; simp [up1, hb]
theorem mk_hS_R {y9 : mm_Cl} {g : Nat → Option Nat} (h : mkC (S a) (I a) (L a) g = y9) : hS (mk S I L R n) a y9 = mk S I L (up1 R a g) n := by
  subst h
  unfold hS mk
  refine Prod.ext (funext fun b => ?_) rfl
  show (if b = a then _ else _) = _
  by_cases hb : b = a
  · subst hb; rw [if_pos rfl]; simp [up1]
  · rw [if_neg hb]; simp [up1, hb]
theorem mk_pI (hs : (S a).1 = c + 9) (hk : (fk c)[k]? = some 0) (ha : 128 ≤ a) : pI (mk S I L R n) (some a) c k x = some (mk S (up2 I a k x) L R n) := by
  have hl : k < (fk c).length := by rcases List.getElem?_eq_some_iff.mp hk with ⟨w, -⟩; exact w
  unfold pI pF
  simp only [mk_1, mkC_o _ _ _ _ hs, mkF_len, hl, ha, and_self, if_true, mkF_setI hk]
  rw [mk_hS_I (g := up1 (I a) k x) (mkC_o _ _ _ _ hs), up2_eq1]
theorem mk_pZ (hs : (S a).1 = c + 9) (hk : (fk c)[k]? = some 0) (ha : 128 ≤ a) (hx : x = 0 ∨ x = 1) : pZ (mk S I L R n) (some a) c k x = some (mk S (up2 I a k x) L R n) := by
  unfold pZ; rw [if_pos hx]; exact mk_pI hs hk ha
theorem mk_pL (hs : (S a).1 = c + 9) (hk : (fk c)[k]? = some 1) (ha : 128 ≤ a) : pL (mk S I L R n) (some a) c k z = some (mk S I (up2 L a k z) R n) := by
  have hl : k < (fk c).length := by rcases List.getElem?_eq_some_iff.mp hk with ⟨w, -⟩; exact w
  unfold pL pF
  simp only [mk_1, mkC_o _ _ _ _ hs, mkF_len, hl, ha, and_self, if_true, mkF_setL hk]
  rw [mk_hS_L (g := up1 (L a) k z) (mkC_o _ _ _ _ hs), up2_eq1]
theorem mk_pR (hs : (S a).1 = c + 9) (hk : (fk c)[k]? = some 2) (ha : 128 ≤ a) : pR (mk S I L R n) (some a) c k r = some (mk S I L (up2 R a k r) n) := by
  have hl : k < (fk c).length := by rcases List.getElem?_eq_some_iff.mp hk with ⟨w, -⟩; exact w
  unfold pR pF
  simp only [mk_1, mkC_o _ _ _ _ hs, mkF_len, hl, ha, and_self, if_true, mkF_setR hk]
  rw [mk_hS_R (g := up1 (R a) k r) (mkC_o _ _ _ _ hs), up2_eq1]
theorem mk_aI0 (hs : S a = (1, N)) (hi : ¬ i < 0) (hn : i.toNatClampNeg < N) : aI (mk S I L R n) (some a) 0 i = some (I a i.toNatClampNeg) := by
  simp [aI, mk_1, hs, mkC, hi, hn]
theorem mk_aJ0 (hs : S a = (1, N)) (hn : k < N) (hN : N < 2 ^ 31) : aI (mk S I L R n) (some a) 0 (nI k) = some (I a k) := by
  rw [mk_aI0 hs (nI_pos (by omega)) (by rw [nI_clamp (by omega)]; exact hn), nI_clamp (by omega)]
theorem mk_aNt0 (hs : S a = (1, N)) : aNt (mk S I L R n) (some a) 0 = some (nI N) := by simp [aNt, mk_1, hs, mkC, nI]
theorem mk_sI0 (hs : S a = (1, N)) (hi : ¬ i < 0) (hn : i.toNatClampNeg < N) (ha : 128 ≤ a) : sI (mk S I L R n) (some a) 0 i x = some (mk S (up2 I a i.toNatClampNeg x) L R n) := by
  simp only [sI, mk_1, hs, mkC, hi, hn, ha, not_false_eq_true, and_self, if_true]
  rw [mk_hS_I (g := upd (I a) i.toNatClampNeg x) (by simp [hs, mkC]), up2_eq1]
  rfl
theorem mk_sJ0 (hs : S a = (1, N)) (hn : k < N) (hN : N < 2 ^ 31) (ha : 128 ≤ a) : sI (mk S I L R n) (some a) 0 (nI k) x = some (mk S (up2 I a k x) L R n) := by
  rw [mk_sI0 hs (nI_pos (by omega)) (by rw [nI_clamp (by omega)]; exact hn) ha, nI_clamp (by omega)]
theorem mk_aI2 (hs : S a = (3, N)) (hi : ¬ i < 0) (hn : i.toNatClampNeg < N) : aI (mk S I L R n) (some a) 2 i = some (I a i.toNatClampNeg) := by
  simp [aI, mk_1, hs, mkC, hi, hn]
theorem mk_aJ2 (hs : S a = (3, N)) (hn : k < N) (hN : N < 2 ^ 31) : aI (mk S I L R n) (some a) 2 (nI k) = some (I a k) := by
  rw [mk_aI2 hs (nI_pos (by omega)) (by rw [nI_clamp (by omega)]; exact hn), nI_clamp (by omega)]
theorem mk_aNt2 (hs : S a = (3, N)) : aNt (mk S I L R n) (some a) 2 = some (nI N) := by simp [aNt, mk_1, hs, mkC, nI]
theorem mk_sI2 (hs : S a = (3, N)) (hi : ¬ i < 0) (hn : i.toNatClampNeg < N) (ha : 128 ≤ a) : sI (mk S I L R n) (some a) 2 i x = some (mk S (up2 I a i.toNatClampNeg x) L R n) := by
  simp only [sI, mk_1, hs, mkC, hi, hn, ha, not_false_eq_true, and_self, if_true]
  rw [mk_hS_I (g := upd (I a) i.toNatClampNeg x) (by simp [hs, mkC]), up2_eq1]
  rfl
theorem mk_sJ2 (hs : S a = (3, N)) (hn : k < N) (hN : N < 2 ^ 31) (ha : 128 ≤ a) : sI (mk S I L R n) (some a) 2 (nI k) x = some (mk S (up2 I a k x) L R n) := by
  rw [mk_sI2 hs (nI_pos (by omega)) (by rw [nI_clamp (by omega)]; exact hn) ha, nI_clamp (by omega)]
theorem mk_aI3 (hs : S a = (4, N)) (hi : ¬ i < 0) (hn : i.toNatClampNeg < N) : aI (mk S I L R n) (some a) 3 i = some (I a i.toNatClampNeg) := by
  simp [aI, mk_1, hs, mkC, hi, hn]
theorem mk_aJ3 (hs : S a = (4, N)) (hn : k < N) (hN : N < 2 ^ 31) : aI (mk S I L R n) (some a) 3 (nI k) = some (I a k) := by
  rw [mk_aI3 hs (nI_pos (by omega)) (by rw [nI_clamp (by omega)]; exact hn), nI_clamp (by omega)]
theorem mk_aNt3 (hs : S a = (4, N)) : aNt (mk S I L R n) (some a) 3 = some (nI N) := by simp [aNt, mk_1, hs, mkC, nI]
theorem mk_sI3 (hs : S a = (4, N)) (hi : ¬ i < 0) (hn : i.toNatClampNeg < N) (ha : 128 ≤ a) : sI (mk S I L R n) (some a) 3 i x = some (mk S (up2 I a i.toNatClampNeg x) L R n) := by
  simp only [sI, mk_1, hs, mkC, hi, hn, ha, not_false_eq_true, and_self, if_true]
  rw [mk_hS_I (g := upd (I a) i.toNatClampNeg x) (by simp [hs, mkC]), up2_eq1]
  rfl
theorem mk_sJ3 (hs : S a = (4, N)) (hn : k < N) (hN : N < 2 ^ 31) (ha : 128 ≤ a) : sI (mk S I L R n) (some a) 3 (nI k) x = some (mk S (up2 I a k x) L R n) := by
  rw [mk_sI3 hs (nI_pos (by omega)) (by rw [nI_clamp (by omega)]; exact hn) ha, nI_clamp (by omega)]
theorem mk_aI7 (hs : S a = (8, N)) (hi : ¬ i < 0) (hn : i.toNatClampNeg < N) : aI (mk S I L R n) (some a) 7 i = some (I a i.toNatClampNeg) := by
  simp [aI, mk_1, hs, mkC, hi, hn]
theorem mk_aJ7 (hs : S a = (8, N)) (hn : k < N) (hN : N < 2 ^ 31) : aI (mk S I L R n) (some a) 7 (nI k) = some (I a k) := by
  rw [mk_aI7 hs (nI_pos (by omega)) (by rw [nI_clamp (by omega)]; exact hn), nI_clamp (by omega)]
theorem mk_aNt7 (hs : S a = (8, N)) : aNt (mk S I L R n) (some a) 7 = some (nI N) := by simp [aNt, mk_1, hs, mkC, nI]
theorem mk_aL (hs : S a = (2, N)) (hi : ¬ i < 0) (hn : i.toNatClampNeg < N) : aL (mk S I L R n) (some a) i = some (L a i.toNatClampNeg) := by
  simp [aL, mk_1, hs, mkC, hi, hn]
theorem mk_sL (hs : S a = (2, N)) (hi : ¬ i < 0) (hn : i.toNatClampNeg < N) (ha : 128 ≤ a) : sL (mk S I L R n) (some a) i z = some (mk S I (up2 L a i.toNatClampNeg z) R n) := by
  simp only [sL, mk_1, hs, mkC, hi, hn, ha, not_false_eq_true, and_self, if_true]
  rw [mk_hS_L (g := vp_updL (L a) i.toNatClampNeg z) (by simp [hs, mkC]), up2_eq1]
  rfl
theorem mk_aNt1 (hs : S a = (2, N)) : aNt (mk S I L R n) (some a) 1 = some (nI N) := by simp [aNt, mk_1, hs, mkC, nI]
theorem mk_aR4 (hs : S a = (5, N)) (hn : k < N) (hN : N < 2 ^ 31) : aR (mk S I L R n) (some a) 4 (nI k) = some (R a k) := by
  have h1 := nI_clamp (n := k) (by omega)
  simp [aR, mk_1, hs, mkC, nI_pos (n := k) (by omega), h1, hn]
theorem mk_sR4 {v : Nat} (hs : S a = (5, N)) (hv : (S v).1 = c + 9) (hn : k < N) (hN : N < 2 ^ 31) (ha : 128 ≤ a) : sR (mk S I L R n) (some a) 4 c (nI k) (some v) = some (mk S I L (up2 R a k (some v)) n) := by
  have h1 := nI_clamp (n := k) (by omega)
  have hx := nI_pos (n := k) (by omega)
  have q1 := mkC_o (S v) (I v) (L v) (R v) hv
  have q2 : mkC (S a) (I a) (L a) (R a) = .inl (4, N, .inr (.inr (R a))) := by simp [hs, mkC]
  simp only [sR, mk_1, q1, q2, h1, hx, hn, ha, not_false_eq_true, and_self, if_true]
  rw [mk_hS_R (g := va_up (R a) k (some v)) (by simp [hs, mkC]), up2_eq1]
  rfl
theorem mk_aR5 (hs : S a = (6, N)) (hn : k < N) (hN : N < 2 ^ 31) : aR (mk S I L R n) (some a) 5 (nI k) = some (R a k) := by
  have h1 := nI_clamp (n := k) (by omega)
  simp [aR, mk_1, hs, mkC, nI_pos (n := k) (by omega), h1, hn]
theorem mk_sR5 {v : Nat} (hs : S a = (6, N)) (hv : (S v).1 = c + 9) (hn : k < N) (hN : N < 2 ^ 31) (ha : 128 ≤ a) : sR (mk S I L R n) (some a) 5 c (nI k) (some v) = some (mk S I L (up2 R a k (some v)) n) := by
  have h1 := nI_clamp (n := k) (by omega)
  have hx := nI_pos (n := k) (by omega)
  have q1 := mkC_o (S v) (I v) (L v) (R v) hv
  have q2 : mkC (S a) (I a) (L a) (R a) = .inl (5, N, .inr (.inr (R a))) := by simp [hs, mkC]
  simp only [sR, mk_1, q1, q2, h1, hx, hn, ha, not_false_eq_true, and_self, if_true]
  rw [mk_hS_R (g := va_up (R a) k (some v)) (by simp [hs, mkC]), up2_eq1]
  rfl
theorem mk_aR6 (hs : S a = (7, N)) (hn : k < N) (hN : N < 2 ^ 31) : aR (mk S I L R n) (some a) 6 (nI k) = some (R a k) := by
  have h1 := nI_clamp (n := k) (by omega)
  simp [aR, mk_1, hs, mkC, nI_pos (n := k) (by omega), h1, hn]
theorem mk_sR6 {v : Nat} (hs : S a = (7, N)) (hv : (S v).1 = c + 9) (hn : k < N) (hN : N < 2 ^ 31) (ha : 128 ≤ a) : sR (mk S I L R n) (some a) 6 c (nI k) (some v) = some (mk S I L (up2 R a k (some v)) n) := by
  have h1 := nI_clamp (n := k) (by omega)
  have hx := nI_pos (n := k) (by omega)
  have q1 := mkC_o (S v) (I v) (L v) (R v) hv
  have q2 : mkC (S a) (I a) (L a) (R a) = .inl (6, N, .inr (.inr (R a))) := by simp [hs, mkC]
  simp only [sR, mk_1, q1, q2, h1, hx, hn, ha, not_false_eq_true, and_self, if_true]
  rw [mk_hS_R (g := va_up (R a) k (some v)) (by simp [hs, mkC]), up2_eq1]
  rfl
theorem mk_cpI {M sp dp nn : Nat} (hs : S a = (1, N)) (hs2 : S b = (1, M)) (h1 : sp + nn ≤ N) (h2 : dp + nn ≤ M) (hN : N < 2 ^ 31) (hM : M < 2 ^ 31) (hb : 128 ≤ b) : cpI (mk S I L R n) (some a) (nI sp) (some b) (nI dp) (nI nn) = some (mk S (up1 I b (va_cpy (I a) (I b) sp dp nn)) L R n) := by
  have e1 := nI_clamp (n := sp) (by omega)
  have e2 := nI_clamp (n := dp) (by omega)
  have e3 := nI_clamp (n := nn) (by omega)
  simp only [cpI, mk_1, hs, hs2, mkC, e1, e2, e3, nI_pos (n := sp) (by omega), nI_pos (n := dp) (by omega), nI_pos (n := nn) (by omega), h1, h2, hb, not_false_eq_true, and_self, if_true]
  rw [mk_hS_I (g := va_cpy (I a) (I b) sp dp nn) (by simp [hs2, mkC])]
theorem mk_tH (h1 : n.1 + 1 ≤ mm_capC) (h2 : n.2 + 6 ≤ mm_capS) : tH (mk S I L R n) = some (mk S I L R (n.1 + 1, n.2 + 6)) := by
  simp only [tH, mk_2, h1, h2, and_self, if_true]
  rfl
theorem mk_hN {M : Nat} {y9 : mm_Cl} (s' : Nat × Nat) (g : Nat → Int32) (g2 : Nat → Int64) (g3 : Nat → Option Nat) (hy : y9 = mkC s' g g2 g3) (h1 : n.1 + 1 ≤ mm_capC) (h2 : n.2 + M ≤ mm_capS) : hN (mk S I L R n) y9 M = some (some n.1, mk (up1 S n.1 s') (up1 I n.1 g) (up1 L n.1 g2) (up1 R n.1 g3) (n.1 + 1, n.2 + M)) := by
  subst hy
  simp only [hN, mk_2, h1, h2, and_self, if_true]
  refine congrArg some (Prod.ext rfl (Prod.ext (funext fun b => ?_) rfl))
  show (if b = n.1 then _ else _) = mkC _ _ _ _
  by_cases hb : b = n.1
  · subst hb; simp [up1]
  · simp only [if_neg hb, up1]; rfl
end MKR
