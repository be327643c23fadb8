/-! makings: a heap as it grows from nothing -/
abbrev BS : Type := List (Nat × Nat × Nat)
abbrev BI' : Type := List (Nat × Nat × Int32)
abbrev BR : Type := List (Nat × Nat × Option Nat)
def lkI : BI' → Nat → Nat → Int32
  | [], _, _ => 0
  | q :: r, a, k => if a = q.1 ∧ k = q.2.1 then q.2.2 else lkI r a k
def lkR : BR → Nat → Nat → Option Nat
  | [], _, _ => none
  | q :: r, a, k => if a = q.1 ∧ k = q.2.1 then q.2.2 else lkR r a k
theorem lkI_ne {a : Nat} : ∀ (l : BI') (k : Nat), (∀ q ∈ l, q.1 ≠ a) → lkI l a k = 0
  | [], _, _ => rfl
  | q :: r, k, h => by
    rw [lkI, if_neg (fun z => h q List.mem_cons_self z.1.symm)]
    exact lkI_ne r k (fun p hp => h p (List.mem_cons_of_mem _ hp))
theorem lkR_ne {a : Nat} : ∀ (l : BR) (k : Nat), (∀ q ∈ l, q.1 ≠ a) → lkR l a k = none
  | [], _, _ => rfl
  | q :: r, k, h => by
    rw [lkR, if_neg (fun z => h q List.mem_cons_self z.1.symm)]
    exact lkR_ne r k (fun p hp => h p (List.mem_cons_of_mem _ hp))
def Bd (z : Nat) (s : BS) (ri : BI') (rr : BR) (B0 : mkS × mkI × mkR) (S : mkS) (I : mkI) (R : mkR) : Prop := (128 ≤ z ∧ ∀ a, a < 128 → S a = B0.1 a ∧ I a = B0.2.1 a ∧ R a = B0.2.2 a) ∧ (∀ a, z ≤ a → S a = (0, 0)) ∧ (∀ q ∈ s, S q.1 = q.2 ∧ 128 ≤ q.1 ∧ q.1 < z) ∧ (∀ a k, 128 ≤ a → a < z → I a k = lkI ri a k ∧ R a k = lkR rr a k) ∧ (∀ q ∈ ri, q.1 < z) ∧ ∀ q ∈ rr, q.1 < z
section BDs
variable {z : Nat} {s : BS} {ri : BI'} {rr : BR} {B0 : mkS × mkI × mkR} {S : mkS} {I : mkI} {L : mkL} {R : mkR} {n : Nat × Nat}
theorem Bd.al (b : Bd z s ri rr B0 S I R) (sh : Nat × Nat) : Bd (z + 1) ((z, sh) :: s) ri rr B0 (up1 S z sh) (up1 I z (fun _ => 0)) (up1 R z (fun _ => none)) := by
  obtain ⟨⟨h0, h1⟩, h2, h3, h4, h5, h6⟩ := b
  refine ⟨⟨by omega, fun a ha => ?_⟩, fun a ha => ?_, fun q hq => ?_, fun a k h1 h2 => ?_, fun q hq => by have := h5 q hq; omega, fun q hq => by have := h6 q hq; omega⟩
  · rw [up1_ne _ _ (by omega), up1_ne _ _ (by omega), up1_ne _ _ (by omega)]; exact h1 a ha
  · rw [up1_ne _ _ (by omega)]; exact h2 a (by omega)
  · rcases List.mem_cons.mp hq with rfl | hq
    · exact ⟨up1_self _ _ _, h0, by show z < z + 1; omega⟩
    · obtain ⟨c1, c2, c3⟩ := h3 q hq
      rw [up1_ne _ _ (by omega)]; exact ⟨c1, c2, by omega⟩
  · by_cases e : a = z
    · rw [e, up1_self, up1_self, lkI_ne ri k (fun q hq => by have := h5 q hq; omega), lkR_ne rr k (fun q hq => by have := h6 q hq; omega)]
      exact ⟨rfl, rfl⟩
    · rw [up1_ne _ _ e, up1_ne _ _ e]; exact h4 a k h1 (by omega)
theorem Bd.pi (b : Bd z s ri rr B0 S I R) {a : Nat} (k : Nat) (x : Int32) (ha : 128 ≤ a) (hz : a < z) : Bd z s ((a, k, x) :: ri) rr B0 S (up2 I a k x) R := by
  obtain ⟨⟨h0, h1⟩, h2, h3, h4, h5, h6⟩ := b
  refine ⟨⟨h0, fun c hc => ?_⟩, h2, h3, fun c j h1 h2 => ⟨?_, (h4 c j h1 h2).2⟩, fun q hq => ?_, h6⟩
  · rw [up2_ne _ _ _ (by omega)]; exact h1 c hc
  · show (if c = a ∧ j = k then x else I c j) = if c = a ∧ j = k then x else lkI ri c j
    rw [(h4 c j h1 h2).1]
  · rcases List.mem_cons.mp hq with rfl | hq
    · exact hz
    · exact h5 q hq
theorem Bd.pr (b : Bd z s ri rr B0 S I R) {a : Nat} (k : Nat) (x : Option Nat) (ha : 128 ≤ a) (hz : a < z) : Bd z s ri ((a, k, x) :: rr) B0 S I (up2 R a k x) := by
  obtain ⟨⟨h0, h1⟩, h2, h3, h4, h5, h6⟩ := b
  refine ⟨⟨h0, fun c hc => ?_⟩, h2, h3, fun c j h1 h2 => ⟨(h4 c j h1 h2).1, ?_⟩, h5, fun q hq => ?_⟩
  · rw [up2_ne _ _ _ (by omega)]; exact h1 c hc
  · show (if c = a ∧ j = k then x else R c j) = if c = a ∧ j = k then x else lkR rr c j
    rw [(h4 c j h1 h2).2]
  · rcases List.mem_cons.mp hq with rfl | hq
    · exact hz
    · exact h6 q hq
/-- a row written anew, as a list says -/
theorem Bd.row (b : Bd z s ri rr B0 S I R) {a : Nat} (l : BI') {I' : mkI} (ha : 128 ≤ a) (hz : a < z) (hl : ∀ q ∈ l, q.1 = a) (h : ∀ x, x ≠ a → I' x = I x) (h' : ∀ j, I' a j = lkI (l ++ ri) a j) : Bd z s (l ++ ri) rr B0 S I' R := by
  obtain ⟨⟨h0, h1⟩, h2, h3, h4, h5, h6⟩ := b
  have skip : ∀ (l : BI') (c j : Nat), (∀ q ∈ l, q.1 = a) → c ≠ a → lkI (l ++ ri) c j = lkI ri c j := fun l => by
    induction l with
    | nil => intro c j _ _; rfl
    | cons q r ih =>
      intro c j hq hc
      rw [List.cons_append, lkI, if_neg (fun z => hc (z.1.trans (hq q List.mem_cons_self)))]
      exact ih c j (fun p hp => hq p (List.mem_cons_of_mem _ hp)) hc
  refine ⟨⟨h0, fun c hc => ?_⟩, h2, h3, fun c j h1 h2 => ⟨?_, (h4 c j h1 h2).2⟩, fun q hq => ?_, h6⟩
  · rw [h c (by omega)]; exact h1 c hc
  · by_cases e : c = a
    · rw [e]; exact h' j
    · rw [h c e, skip l c j hl e]; exact (h4 c j h1 h2).1
  · rcases List.mem_append.mp hq with hq | hq
    · rw [hl q hq]; exact hz
    · exact h5 q hq
theorem Bd.shp (b : Bd z s ri rr B0 S I R) {q : Nat × Nat × Nat} (h : q ∈ s) : S q.1 = q.2 := (b.2.2.1 q h).1
/-! steps -/
theorem st_I (b : Bd z s ri rr B0 S I R) {sl z' sl' t N : Nat} {x : Int32} (hx : x = nI N) (hN : N < 2147483648) (ht : t = 0 ∨ t = 2 ∨ t = 3) (hz : z' = z + 1) (hs : sl' = sl + N) (h1 : z' ≤ mm_capC) (h2 : sl' ≤ mm_capS) : ∃ S' I' L' R', nI_ (mk S I L R (z, sl)) t x = some (some z, mk S' I' L' R' (z', sl')) ∧ Bd z' ((z, t + 1, N) :: s) ri rr B0 S' I' R' := by
  subst hx hz hs
  refine ⟨_, _, up1 L z (fun _ => 0), _, ?_, b.al (t + 1, N)⟩
  · unfold nI_
    have e : (nI N).toNatClampNeg = N := by
      show (nI N).toInt.toNat = N
      rw [nI_toInt hN]; omega
    rw [if_neg (nI_pos hN), e]
    exact mk_hN (n := (z, sl)) (t + 1, N) (fun _ => 0) (fun _ => 0) (fun _ => none) (by rcases ht with rfl | rfl | rfl <;> rfl) h1 h2
theorem st_L (b : Bd z s ri rr B0 S I R) {sl z' sl' N : Nat} {x : Int32} (hx : x = nI N) (hN : N < 2147483648) (hz : z' = z + 1) (hs : sl' = sl + N) (h1 : z' ≤ mm_capC) (h2 : sl' ≤ mm_capS) : ∃ S' I' L' R', nL_ (mk S I L R (z, sl)) x = some (some z, mk S' I' L' R' (z', sl')) ∧ Bd z' ((z, 2, N) :: s) ri rr B0 S' I' R' := by
  subst hx hz hs
  refine ⟨_, _, up1 L z (fun _ => 0), _, ?_, b.al (2, N)⟩
  · unfold nL_
    have e : (nI N).toNatClampNeg = N := by
      show (nI N).toInt.toNat = N
      rw [nI_toInt hN]; omega
    rw [if_neg (nI_pos hN), e]
    exact mk_hN (n := (z, sl)) (2, N) (fun _ => 0) (fun _ => 0) (fun _ => none) rfl h1 h2
theorem st_R (b : Bd z s ri rr B0 S I R) {sl z' sl' t N : Nat} {x : Int32} (hx : x = nI N) (hN : N < 2147483648) (ht : t = 4 ∨ t = 5 ∨ t = 6) (hz : z' = z + 1) (hs : sl' = sl + N) (h1 : z' ≤ mm_capC) (h2 : sl' ≤ mm_capS) : ∃ S' I' L' R', nR_ (mk S I L R (z, sl)) t x = some (some z, mk S' I' L' R' (z', sl')) ∧ Bd z' ((z, t + 1, N) :: s) ri rr B0 S' I' R' := by
  subst hx hz hs
  refine ⟨_, _, up1 L z (fun _ => 0), _, ?_, b.al (t + 1, N)⟩
  · unfold nR_
    have e : (nI N).toNatClampNeg = N := by
      show (nI N).toInt.toNat = N
      rw [nI_toInt hN]; omega
    rw [if_neg (nI_pos hN), e]
    exact mk_hN (n := (z, sl)) (t + 1, N) (fun _ => 0) (fun _ => 0) (fun _ => none) (by rcases ht with rfl | rfl | rfl <;> rfl) h1 h2
theorem st_O (b : Bd z s ri rr B0 S I R) {sl z' sl' c M : Nat} {fs : List Value} (hf : (.inr (some (c, fs)) : mm_Cl) = mkC (c + 9, 0) (fun _ => 0) (fun _ => 0) (fun _ => none)) (hz : z' = z + 1) (hs : sl' = sl + M) (h1 : z' ≤ mm_capC) (h2 : sl' ≤ mm_capS) : ∃ S' I' L' R', nO (mk S I L R (z, sl)) c fs M = some (some z, mk S' I' L' R' (z', sl')) ∧ Bd z' ((z, c + 9, 0) :: s) ri rr B0 S' I' R' := by
  subst hz hs
  refine ⟨_, _, up1 L z (fun _ => 0), _, ?_, b.al (c + 9, 0)⟩
  · exact mk_hN (n := (z, sl)) (c + 9, 0) (fun _ => 0) (fun _ => 0) (fun _ => none) hf h1 h2
theorem st_pR (b : Bd z s ri rr B0 S I R) {o c k : Nat} {v : Option Nat} (ho : (o, c + 9, 0) ∈ s) (hk : (fk c)[k]? = some 2) : ∃ R', pR (mk S I L R n) (some o) c k v = some (mk S I L R' n) ∧ Bd z s ri ((o, k, v) :: rr) B0 S I R' := by
  obtain ⟨h1, h2, h3⟩ := b.2.2.1 _ ho
  exact ⟨_, mk_pR (c := c) (by rw [h1]) hk h2, b.pr k v h2 h3⟩
theorem st_pI (b : Bd z s ri rr B0 S I R) {o c k : Nat} {v : Int32} (ho : (o, c + 9, 0) ∈ s) (hk : (fk c)[k]? = some 0) : ∃ I', pI (mk S I L R n) (some o) c k v = some (mk S I' L R n) ∧ Bd z s ((o, k, v) :: ri) rr B0 S I' R := by
  obtain ⟨h1, h2, h3⟩ := b.2.2.1 _ ho
  exact ⟨_, mk_pI (c := c) (by rw [h1]) hk h2, b.pi k v h2 h3⟩
theorem st_pZ (b : Bd z s ri rr B0 S I R) {o c k : Nat} {v : Int32} (ho : (o, c + 9, 0) ∈ s) (hk : (fk c)[k]? = some 0) (hv : v = 0 ∨ v = 1) : ∃ I', pZ (mk S I L R n) (some o) c k v = some (mk S I' L R n) ∧ Bd z s ((o, k, v) :: ri) rr B0 S I' R := by
  obtain ⟨h1, h2, h3⟩ := b.2.2.1 _ ho
  exact ⟨_, mk_pZ (c := c) (by rw [h1]) hk h2 hv, b.pi k v h2 h3⟩
theorem st_sI (b : Bd z s ri rr B0 S I R) {o N k : Nat} {i v : Int32} (ho : (o, 1, N) ∈ s) (hi : i = nI k) (hk : k < N) (hN : N < 2 ^ 31) : ∃ I', sI (mk S I L R n) (some o) 0 i v = some (mk S I' L R n) ∧ Bd z s ((o, k, v) :: ri) rr B0 S I' R := by
  obtain ⟨h1, h2, h3⟩ := b.2.2.1 _ ho
  subst hi
  exact ⟨_, mk_sJ0 h1 hk hN h2, b.pi k v h2 h3⟩
theorem st_sR4 (b : Bd z s ri rr B0 S I R) {o N k c v : Nat} {i : Int32} (ho : (o, 5, N) ∈ s) (hv : (v, c + 9, 0) ∈ s) (hi : i = nI k) (hk : k < N) (hN : N < 2 ^ 31) : ∃ R', sR (mk S I L R n) (some o) 4 c i (some v) = some (mk S I L R' n) ∧ Bd z s ri ((o, k, some v) :: rr) B0 S I R' := by
  obtain ⟨h1, h2, h3⟩ := b.2.2.1 _ ho
  have h4 := (b.2.2.1 _ hv).1
  subst hi
  exact ⟨_, mk_sR4 h1 (by rw [h4]) hk hN h2, b.pr k _ h2 h3⟩
theorem st_gR (b : Bd z s ri rr B0 S I R) {o c k : Nat} {v : Option Nat} (ho : (o, c + 9, 0) ∈ s) (hk : (fk c)[k]? = some 2) (hv : lkR rr o k = v) : gR (mk S I L R n) (some o) c k = some v := by
  obtain ⟨h1, h2, h3⟩ := b.2.2.1 _ ho
  rw [mk_gR (c := c) (by rw [h1]) hk, (b.2.2.2.1 o k h2 h3).2, hv]
theorem st_gI (b : Bd z s ri rr B0 S I R) {o c k : Nat} {v : Int32} (ho : (o, c + 9, 0) ∈ s) (hk : (fk c)[k]? = some 0) (hv : lkI ri o k = v) : gI (mk S I L R n) (some o) c k = some v := by
  obtain ⟨h1, h2, h3⟩ := b.2.2.1 _ ho
  rw [mk_gI (c := c) (by rw [h1]) hk, (b.2.2.2.1 o k h2 h3).1, hv]
theorem st_aI (b : Bd z s ri rr B0 S I R) {o N k : Nat} {i v : Int32} (ho : (o, 1, N) ∈ s) (hi : i = nI k) (hk : k < N) (hN : N < 2 ^ 31) (hv : lkI ri o k = v) : aI (mk S I L R n) (some o) 0 i = some v := by
  obtain ⟨h1, h2, h3⟩ := b.2.2.1 _ ho
  subst hi
  rw [mk_aJ0 h1 hk hN, (b.2.2.2.1 o k h2 h3).1, hv]
theorem st_cV (b : Bd z s ri rr B0 S I R) {o c : Nat} (ho : (o, c + 9, 0) ∈ s) {α : Type} {q : Option α} : cV (mk S I L R n) (some o) c q = q := mk_cV (c := c) (by rw [(b.2.2.1 _ ho).1])
theorem lk8 {ca : Nat} {ri : BI'} (hne : ∀ q ∈ ri, q.1 ≠ ca) {d : Nat} (j : Nat) : lkI ([(ca, d, -1), (ca, d + 1, -1), (ca, d + 2, -1), (ca, d + 3, -1), (ca, d + 4, -1), (ca, d + 5, -1), (ca, d + 6, -1), (ca, d + 7, -1)] ++ ri) ca j = if d ≤ j ∧ j < d + 8 then -1 else 0 := by
  simp only [List.cons_append, List.nil_append, lkI, true_and]
  rw [lkI_ne ri j hne]
  by_cases e : d ≤ j ∧ j < d + 8
  · rw [if_pos e]
    rcases (show j = d ∨ j = d + 1 ∨ j = d + 2 ∨ j = d + 3 ∨ j = d + 4 ∨ j = d + 5 ∨ j = d + 6 ∨ j = d + 7 by omega) with h | h | h | h | h | h | h | h
    · rw [if_pos h]
    · rw [if_neg (by omega), if_pos h]
    · rw [if_neg (by omega), if_neg (by omega), if_pos h]
    · rw [if_neg (by omega), if_neg (by omega), if_neg (by omega), if_pos h]
    · rw [if_neg (by omega), if_neg (by omega), if_neg (by omega), if_neg (by omega), if_pos h]
    · rw [if_neg (by omega), if_neg (by omega), if_neg (by omega), if_neg (by omega), if_neg (by omega), if_pos h]
    · rw [if_neg (by omega), if_neg (by omega), if_neg (by omega), if_neg (by omega), if_neg (by omega), if_neg (by omega), if_pos h]
    · rw [if_neg (by omega), if_neg (by omega), if_neg (by omega), if_neg (by omega), if_neg (by omega), if_neg (by omega), if_neg (by omega), if_pos h]
  · rw [if_neg e, if_neg (by omega), if_neg (by omega), if_neg (by omega), if_neg (by omega), if_neg (by omega), if_neg (by omega), if_neg (by omega), if_neg (by omega)]
/-- a board cleared -/
theorem st_clr (b : Bd z s ri rr B0 S I R) {o ca : Nat} (ho : (o, 9, 0) ∈ s) (hc : (ca, 1, 81) ∈ s) (hr : lkR rr o 0 = some ca) (hne : ∀ q ∈ ri, q.1 ≠ ca) : ∃ I', F_X0_clear (some o) (mk S I L R n) = some (mk S I' L R n) ∧ Bd z s ([(ca, 3, -1), (ca, 4, -1), (ca, 5, -1), (ca, 6, -1), (ca, 7, -1), (ca, 8, -1), (ca, 9, -1), (ca, 10, -1)] ++ ri) rr B0 S I' R := by
  obtain ⟨h1, h2, h3⟩ := b.2.2.1 _ ho
  obtain ⟨h4, h5, h6⟩ := b.2.2.1 _ hc
  have r0 : R o 0 = some ca := by rw [(b.2.2.2.1 o 0 h2 h3).2, hr]
  obtain ⟨co, -⟩ : ∃ co : Nat, co = 0 := ⟨_, rfl⟩
  have key : ∀ (r g l : Nat) (I : mkI), l + r = 8 → r < g → ∃ I', F_X0_clear_10 g (some o) (nI l) (mk S I L R n) = some (mk S I' L R n) ∧ (∀ x, x ≠ ca → I' x = I x) ∧ ∀ j, I' ca j = if 3 + l ≤ j ∧ j < 11 then -1 else I ca j := by
    intro r
    induction r with
    | zero =>
      intro g l I hl hg
      obtain ⟨g, rfl⟩ : ∃ y, g = y + 1 := ⟨g - 1, by omega⟩
      have : l = 8 := by omega
      subst this
      refine ⟨I, ?_, fun _ _ => rfl, fun j => by rw [if_neg (by omega)]⟩
      simp only [F_X0_clear_10]
      rw [if_pos (by decide)]
    | succ r ih =>
      intro g l I hl hg
      obtain ⟨g, rfl⟩ : ∃ y, g = y + 1 := ⟨g - 1, by omega⟩
      obtain ⟨I', q1, q2, q3⟩ := ih g (l + 1) (up2 I ca (3 + l) (-1)) (by omega) (by omega)
      refine ⟨I', ?_, fun x hx => by rw [q2 x hx, up2_ne _ _ _ hx], fun j => ?_⟩
      · simp only [F_X0_clear_10]
        rw [if_neg (ge_li 8 (by omega) (by decide)), mk_gR (c := 0) (by rw [h1]) rfl, Option.bind_some, r0, show (3 : Int32) + nI l = nI (3 + l) from nI_add 3 l, mk_sJ0 h4 (by omega) (by decide) h5, Option.bind_some, nI_1]
        exact q1
      · rw [q3 j, up2_row]
        by_cases e : j = 3 + l
        · subst e
          rw [if_neg (by omega), up1_self, if_pos (by omega)]
        · rw [up1_ne _ _ e]
          by_cases e2 : 3 + (l + 1) ≤ j ∧ j < 11
          · rw [if_pos e2, if_pos (by omega)]
          · rw [if_neg e2, if_neg (by omega)]
  obtain ⟨I', q1, q2, q3⟩ := key 8 mm_N 0 (up1 I ca (fun j => if 0 ≤ j ∧ j < 81 then (0 : Int32) else I ca j)) (by omega) (by unfold mm_N; decide)
  refine ⟨I', ?_, b.row (a := ca) _ h5 h6 (fun q hq => ?_) (fun x hx => by rw [q2 x hx, up1_ne _ _ hx]) (fun j => ?_)⟩
  · unfold F_X0_clear
    rw [mk_gR (c := 0) (by rw [h1]) rfl, Option.bind_some, r0, c_fill h4 (by decide) h5, Option.bind_some]
    exact q1
  · simp only [List.mem_cons, List.not_mem_nil, or_false] at hq
    rcases hq with rfl | rfl | rfl | rfl | rfl | rfl | rfl | rfl <;> rfl
  · rw [lk8 (d := 3) hne j, q3 j, up1_self, (b.2.2.2.1 ca j h5 h6).1, lkI_ne ri j hne, ite_self]
/-- who is married, of the reference -/
theorem st_wed (b : Bd z s ri rr B0 S I R) {o ca : Nat} (ho : (o, 21, 0) ∈ s) (hc : (ca, 1, 3205) ∈ s) (hr : lkR rr o 0 = some ca) : ∃ I', F_X12_init_253 mm_N (some o) 0 (mk S I L R n) = some (mk S I' L R n) ∧ (∀ x, x ≠ ca → I' x = I x) ∧ ∀ j, I' ca j = if 38 ≤ j ∧ j < 46 then -1 else I ca j := by
  obtain ⟨h1, h2, h3⟩ := b.2.2.1 _ ho
  obtain ⟨h4, h5, h6⟩ := b.2.2.1 _ hc
  have r0 : R o 0 = some ca := by rw [(b.2.2.2.1 o 0 h2 h3).2, hr]
  have key : ∀ (r g l : Nat) (I : mkI), l + r = 8 → r < g → ∃ I', F_X12_init_253 g (some o) (nI l) (mk S I L R n) = some (mk S I' L R n) ∧ (∀ x, x ≠ ca → I' x = I x) ∧ ∀ j, I' ca j = if 38 + l ≤ j ∧ j < 46 then -1 else I ca j := by
    intro r
    induction r with
    | zero =>
      intro g l I hl hg
      obtain ⟨g, rfl⟩ : ∃ y, g = y + 1 := ⟨g - 1, by omega⟩
      have : l = 8 := by omega
      subst this
      refine ⟨I, ?_, fun _ _ => rfl, fun j => by rw [if_neg (by omega)]⟩
      simp only [F_X12_init_253]
      rw [if_pos (by decide)]
    | succ r ih =>
      intro g l I hl hg
      obtain ⟨g, rfl⟩ : ∃ y, g = y + 1 := ⟨g - 1, by omega⟩
      obtain ⟨I', q1, q2, q3⟩ := ih g (l + 1) (up2 I ca (38 + l) (-1)) (by omega) (by omega)
      refine ⟨I', ?_, fun x hx => by rw [q2 x hx, up2_ne _ _ _ hx], fun j => ?_⟩
      · simp only [F_X12_init_253]
        rw [if_neg (ge_li 8 (by omega) (by decide)), mk_gR (c := 12) (by rw [h1]) rfl, Option.bind_some, r0, show (38 : Int32) + nI l = nI (38 + l) from nI_add 38 l, mk_sJ0 h4 (by omega) (by decide) h5, Option.bind_some, nI_1]
        exact q1
      · rw [q3 j, up2_row]
        by_cases e : j = 38 + l
        · subst e
          rw [if_neg (by omega), up1_self, if_pos (by omega)]
        · rw [up1_ne _ _ e]
          by_cases e2 : 38 + (l + 1) ≤ j ∧ j < 46
          · rw [if_pos e2, if_pos (by omega)]
          · rw [if_neg e2, if_neg (by omega)]
  exact key 8 mm_N 0 I (by omega) (by unfold mm_N; decide)
end BDs
