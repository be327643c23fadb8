/-! loss, fewest -/
section LS
variable {S : mkS} {I : mkI} {R : mkR} {n : Nat × Nat}
theorem er_big {a b i : Nat} (ha : 1 ≤ a) (ha2 : a ≤ 20) (hb2 : b ≤ 20) (hi : i < 8) : 1 ≤ a * (er a b i).1 ∧ a * (er a b i).1 ≤ b * (i + 1) * (er a b i).2 + a * (er a b i).1 ∧ b * (i + 1) * (er a b i).2 + a * (er a b i).1 < 9223372036854775808 := by
  obtain ⟨h1, h2, h3⟩ := er_ok (b := b) ha ha2 hb2 i
  obtain ⟨s1, s2, s3⟩ := er_step (b := b) ha ha2 hb2 h1 h2 h3
  have := erB_le (i + 1) (by omega)
  exact ⟨s1, s2, by omega⟩
theorem er_lt {a b i : Nat} (ha : 1 ≤ a) (ha2 : a ≤ 20) (hb2 : b ≤ 20) (hi : i ≤ 8) : (er a b i).1 ≤ 9289728000000000 ∧ (er a b i).2 ≤ 9289728000000000 := by
  obtain ⟨h1, h2, h3⟩ := er_ok (b := b) ha ha2 hb2 i
  have := erB_le i (by omega)
  omega
theorem c_lossL {m a b : Nat} (hm : m ≤ 8) (ha : 1 ≤ a) (ha2 : a ≤ 20) (hb2 : b ≤ 20) (s : Int32) (H : MH) : ∀ (r g i : Nat), i + r = m → r < g → F_X11_lossPart_9 g (nI m) (nI a) (nI b) s (nL (er a b i).1) (nL (er a b i).2) (nI (i + 1)) H = some (if s = 0 then nL (er a b m).2 else nL (er a b m).1, H) := by
  intro r
  induction r with
  | zero =>
    intro g i hi hg
    obtain ⟨g, rfl⟩ : ∃ z, g = z + 1 := ⟨g - 1, by omega⟩
    have : i = m := by omega
    subst this
    simp only [F_X11_lossPart_9, F_X11_lossPart_83]
    rw [if_pos (nI_lt (by omega) (by omega))]
    by_cases q : s = 0
    · rw [if_pos q, if_pos q]
    · rw [if_neg q, if_neg q]
  | succ r ih =>
    intro g i hi hg
    obtain ⟨g, rfl⟩ : ∃ z, g = z + 1 := ⟨g - 1, by omega⟩
    obtain ⟨s1, s2, s3⟩ := er_big (b := b) (i := i) ha ha2 hb2 (by omega)
    have hg0 : 0 < Nat.gcd (a * (er a b i).1) (b * (i + 1) * (er a b i).2 + a * (er a b i).1) := Nat.gcd_pos_of_pos_left _ s1
    have hgl : Nat.gcd (a * (er a b i).1) (b * (i + 1) * (er a b i).2 + a * (er a b i).1) < 9223372036854775808 := by
      have := Nat.gcd_le_left (b * (i + 1) * (er a b i).2 + a * (er a b i).1) s1
      omega
    simp only [F_X11_lossPart_9, F_X11_lossPart_66]
    rw [if_neg (nI_nlt (by omega) (by omega)), nL_nI (by omega), nL_nI (by omega), nL_nI (by omega), nL_mul, nL_mul, nL_mul, nL_add, c_cd s2 s3, b2_some]
    have e0 : ¬ lg_cmp (nL (Nat.gcd (a * (er a b i).1) (b * (i + 1) * (er a b i).2 + a * (er a b i).1))) 0 ≤ 0 := by
      rw [show (0 : Int64) = nL 0 from rfl, nL_cmp hgl (by decide), if_pos hg0]; decide
    have e1 : ¬ nL (Nat.gcd (a * (er a b i).1) (b * (i + 1) * (er a b i).2 + a * (er a b i).1)) = 0 := fun q => by
      rw [show (0 : Int64) = nL 0 from rfl, nL_inj hgl (by decide)] at q; omega
    rw [if_neg e0, if_neg e1, if_neg e1, nL_div (by omega) hgl hg0, nL_div s3 hgl hg0, nI_1]
    exact ih g (i + 1) (by omega) (by omega)
theorem c_lossP {m a b : Nat} (hm : m ≤ 8) (ha : 1 ≤ a) (ha2 : a ≤ 20) (hb2 : b ≤ 20) (s : Int32) (H : MH) : F_X11_lossPart (nI m) (nI a) (nI b) s H = some (if s = 0 then nL (er a b m).2 else nL (er a b m).1, H) :=
  c_lossL hm ha ha2 hb2 s H m mm_N 0 (by omega) (by unfold mm_N; omega)
theorem e_lossL (hs : St S R) {m a b : Nat} (hm : m ≤ 8) (ha : 1 ≤ a) (ha2 : a ≤ 20) (hb2 : b ≤ 20) : ∀ (r g i : Nat) (L : mkL), i + r = m → r < g → L 197 40 = nL (er a b i).1 → L 197 41 = nL (er a b i).2 → ∃ L', F_X12_laysLoss_13 g (some 197) (nI m) (nI a) (nI b) (nI (i + 1)) (mk S I L R n) = some (mk S I L' R n) ∧ L' 197 40 = nL (er a b m).1 ∧ L' 197 41 = nL (er a b m).2 ∧ ∀ x, x ≠ 197 → L' x = L x := by
  intro r
  induction r with
  | zero =>
    intro g i L hi hg l1 l2
    obtain ⟨g, rfl⟩ : ∃ z, g = z + 1 := ⟨g - 1, by omega⟩
    have : i = m := by omega
    subst this
    refine ⟨L, ?_, l1, l2, fun _ _ => rfl⟩
    simp only [F_X12_laysLoss_13]
    rw [if_pos (nI_lt (by omega) (by omega))]
  | succ r ih =>
    intro g i L hi hg l1 l2
    obtain ⟨g, rfl⟩ : ∃ z, g = z + 1 := ⟨g - 1, by omega⟩
    obtain ⟨s1, s2, s3⟩ := er_big (b := b) (i := i) ha ha2 hb2 (by omega)
    have hg0 : 0 < Nat.gcd (a * (er a b i).1) (b * (i + 1) * (er a b i).2 + a * (er a b i).1) := Nat.gcd_pos_of_pos_left _ s1
    have hgl : Nat.gcd (a * (er a b i).1) (b * (i + 1) * (er a b i).2 + a * (er a b i).1) < 9223372036854775808 := by
      have := Nat.gcd_le_left (b * (i + 1) * (er a b i).2 + a * (er a b i).1) s1
      omega
    have e1 : ¬ nL (Nat.gcd (a * (er a b i).1) (b * (i + 1) * (er a b i).2 + a * (er a b i).1)) = 0 := fun q => by
      rw [show (0 : Int64) = nL 0 from rfl, nL_inj hgl (by decide)] at q; omega
    obtain ⟨L', q1, q2, q3, q4⟩ := ih g (i + 1) (up2 (up2 L 197 40 (nL (er a b (i + 1)).1)) 197 41 (nL (er a b (i + 1)).2)) (by omega) (by omega) (by rw [up2_row, up1_ne _ _ (by decide), up2_self]) (by rw [up2_self])
    refine ⟨L', ?_, q2, q3, fun x hx => by rw [q4 x hx, up2_ne _ _ _ hx, up2_ne _ _ _ hx]⟩
    simp only [F_X12_laysLoss_13]
    rw [if_neg (nI_nlt (by omega) (by omega)), gl_197_40 hs, Option.bind_some, gl_197_41 hs, Option.bind_some, l1, l2, nL_nI (by omega), nL_nI (by omega), nL_nI (by omega), nL_mul, nL_mul, nL_mul, nL_add, e_cd (by omega) s2 s3, b2_some, if_neg e1, nL_div (by omega) hgl hg0, nL_div s3 hgl hg0, pl_197_40 hs, Option.bind_some, if_neg e1, pl_197_41 hs, Option.bind_some, nI_1]
    exact q1
theorem e_loss (hs : St S R) (L : mkL) {m a b : Nat} (hm : m ≤ 8) (ha : 1 ≤ a) (ha2 : a ≤ 20) (hb2 : b ≤ 20) : ∃ L', F_X12_laysLoss (some 197) (nI m) (nI a) (nI b) (mk S I L R n) = some (mk S I L' R n) ∧ L' 197 40 = nL (er a b m).1 ∧ L' 197 41 = nL (er a b m).2 ∧ ∀ x, x ≠ 197 → L' x = L x := by
  obtain ⟨L', q1, q2, q3, q4⟩ := e_lossL (I := I) (n := n) hs hm ha ha2 hb2 m mm_N 0 (up2 (up2 L 197 40 1) 197 41 1) (by omega) (by unfold mm_N; omega) (by rw [up2_row, up1_ne _ _ (by decide), up2_self]; rfl) (by rw [up2_self]; rfl)
  refine ⟨L', ?_, q2, q3, fun x hx => by rw [q4 x hx, up2_ne _ _ _ hx, up2_ne _ _ _ hx]⟩
  unfold F_X12_laysLoss
  rw [pl_197_40 hs, Option.bind_some, pl_197_41 hs, Option.bind_some]
  exact q1
theorem InvR.l197 {tb : Nat → Nat} {tn : Nat} {fk fp : Int32} {w : WD} {tr : TR} {im : IM} {I : mkI} {L L' : mkL} (h : InvR tb tn fk fp w tr im I L) (hL : ∀ x, x ≠ 197 → L' x = L x) : InvR tb tn fk fp w tr im I L' := by
  unfold InvR RTr at *
  rw [hL 219 (by decide)]
  exact h
end LS
