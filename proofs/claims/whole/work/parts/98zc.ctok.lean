/-! what a token is: words, signs, numbers -/
def wsOf (a : Nat) : List Nat := (mm_byt a).map (fun x => x.toNatClampNeg)
theorem ws_all : ∀ a < 51, (wsOf a).length = (mm_byt a).length ∧ (mm_byt a).length < 100 ∧ ∀ j < (mm_byt a).length, (mm_byt a).getD j 0 = nI ((wsOf a).getD j 0) ∧ (wsOf a).getD j 0 < 128 := by decide +kernel
def wB (tb : Nat → Nat) (t : TKN) (ws : List Nat) : Bool := decide (t.2.2 = 2) && (decide (t.2.1 - t.1 = ws.length) && (List.range ws.length).all fun i => decide (tb (t.1 + i) = ws.getD i 0))
def sgB (tb : Nat → Nat) (t : TKN) (c : Nat) : Bool := decide (t.2.2 = 4) && decide (tb t.1 = c)
def numV (tb : Nat → Nat) : Nat → Nat → Nat → Nat
  | 0, _, x => x
  | r + 1, s, x => numV tb r (s + 1) (10 * x + tb s - 48)
def nmV (tb : Nat → Nat) (t : TKN) : Nat := numV tb (t.2.1 - t.1) t.1 0
theorem numV_snoc {tb : Nat → Nat} : ∀ (r s x : Nat), numV tb (r + 1) s x = 10 * numV tb r s x + tb (s + r) - 48
  | 0, _, _ => rfl
  | r + 1, s, x => by
    rw [numV, numV_snoc r (s + 1), numV, show s + 1 + r = s + (r + 1) by omega]
theorem rn_all {p : Nat → Bool} {tb : Nat → Nat} : ∀ (r q j : Nat), q ≤ j → j < rn p tb r q → p (tb j) = true
  | 0, q, j, h1, h2 => by rw [rn] at h2; omega
  | r + 1, q, j, h1, h2 => by
    rw [rn] at h2
    by_cases e : p (tb q) = true
    · rw [if_pos e] at h2
      by_cases e2 : j = q
      · rw [e2]; exact e
      · exact rn_all r (q + 1) j (by omega) h2
    · rw [if_neg e] at h2; omega
/-- a good token: numbers are of digits, three at most -/
def TKg (tb : Nat → Nat) (N : Nat) (t : TKN) : Prop := TKo N t ∧ (t.2.2 = 3 → t.2.1 - t.1 ≤ 3 ∧ ∀ j, t.1 ≤ j → j < t.2.1 → isDg (tb j) = true) ∧ (t.2.2 = 4 → isSg (tb t.1) = true)
theorem lxAt_g {tb : Nat → Nat} {N s : Nat} (h : s ≤ N) : TKg tb N (lxAt tb N s) := by
  refine ⟨(lxAt_ok h).1, ?_⟩
  unfold lxAt
  by_cases e : N ≤ s
  · rw [if_pos e]
    exact ⟨fun h => absurd (show (0 : Nat) = 3 from h) (by decide), fun h => absurd (show (0 : Nat) = 4 from h) (by decide)⟩
  · rw [if_neg e]
    by_cases e1 : isLt (tb s) = true
    · rw [if_pos e1]
      exact ⟨fun h => absurd (show (2 : Nat) = 3 from h) (by decide), fun h => absurd (show (2 : Nat) = 4 from h) (by decide)⟩
    · rw [if_neg e1]
      by_cases e2 : isDg (tb s) = true
      · rw [if_pos e2]
        refine ⟨fun h => ?_, fun h => ?_⟩
        · have h3 : ¬ 3 < rn isDg tb (N - s) s - s := fun z => by
            have : (if 3 < rn isDg tb (N - s) s - s then 1 else 3) = 3 := h
            rw [if_pos z] at this; cases this
          exact ⟨by show rn isDg tb (N - s) s - s ≤ 3; omega, fun j h1 h2 => rn_all _ _ j h1 h2⟩
        · have : (if 3 < rn isDg tb (N - s) s - s then 1 else 3) = 4 := h
          split at this <;> cases this
      · rw [if_neg e2]
        refine ⟨fun h => ?_, fun h => ?_⟩
        · have : (if isSg (tb s) = true then 4 else 1) = 3 := h
          split at this <;> cases this
        · show isSg (tb s) = true
          cases hh : isSg (tb s) with
          | true => rfl
          | false =>
            have : (if isSg (tb s) = true then 4 else 1) = 4 := h
            rw [hh, if_neg Bool.false_ne_true] at this; cases this
theorem lx_g {tb : Nat → Nat} {N q : Nat} (h : q ≤ N) : TKg tb N (lx tb N q) ∧ q ≤ (lx tb N q).1 := by
  have h1 := rn_b (p := isSp) (tb := tb) (N - q) q
  exact ⟨lxAt_g (by omega), (lx_ok h).2⟩
theorem isDg_b {b : Nat} (h : isDg b = true) : 48 ≤ b ∧ b ≤ 57 := of_decide_eq_true h
theorem numV_lt {tb : Nat → Nat} : ∀ (r s x : Nat), (∀ j, s ≤ j → j < s + r → isDg (tb j) = true) → numV tb r s x + 1 ≤ (x + 1) * 10 ^ r
  | 0, s, x, _ => by rw [numV, Nat.pow_zero, Nat.mul_one]; exact Nat.le_refl _
  | r + 1, s, x, h => by
    have hb := isDg_b (h s (Nat.le_refl _) (by omega))
    have := numV_lt r (s + 1) (10 * x + tb s - 48) (fun j h1 h2 => h j (by omega) (by omega))
    rw [numV]
    refine Nat.le_trans this ?_
    rw [Nat.pow_succ, Nat.mul_comm (10 ^ r) 10, ← Nat.mul_assoc]
    exact Nat.mul_le_mul_right _ (by omega)
theorem nmV_lt {tb : Nat → Nat} {N : Nat} {t : TKN} (h : TKg tb N t) (h3 : t.2.2 = 3) : nmV tb t < 1000 := by
  obtain ⟨a, b⟩ := h.2.1 h3
  have h0 := h.1.2.2.1
  have := numV_lt (tb := tb) (t.2.1 - t.1) t.1 0 (fun j h1 h2 => b j h1 (by omega))
  have h2 : 10 ^ (t.2.1 - t.1) ≤ 10 ^ 3 := Nat.pow_le_pow_right (by decide) a
  unfold nmV
  omega
theorem sb_eq {b c : Nat} (hb : b < 256) (hc : c < 128) : (sb b = nI c) ↔ b = c := by
  have key : ∀ b < 256, 128 ≤ b → sb b < 0 := by decide +kernel
  by_cases e : b < 128
  · rw [(sb_all b hb).2.2.2.2.2.2.1 e, nI_eq (by omega) (by omega)]
  · constructor
    · intro h
      have := key b hb (by omega)
      rw [h] at this
      exact absurd this (nI_pos (by omega))
    · intro h; omega
section CT
variable {Ls : Nat} {xs : Nat → Int32} {S : mkS} {I : mkI} {L : mkL} {R : mkR} {n : Nat × Nat} {tb : Nat → Nat} {N : Nat} {t : TKN}
theorem c_isSign (hs : St S R) (hT : TpC tb N I) (hg : TKg tb N t) (ht : TkC tb t I) {c : Nat} (hc : c < 128) : F_X9_isSign (some 164) (nI c) (mk S I L R n) = some (b2i (sgB tb t c), mk S I L R n) := by
  unfold F_X9_isSign F_X9_isSign_20 F_X9_isSign_21 sgB
  rw [gi_164_4 hs, Option.bind_some, ht.2.2.1, rZ_1, rZ_0]
  have hk := hg.1.2.2.2.1
  by_cases e : t.2.2 = 4
  · rw [if_pos (by rw [e]; rfl), gi_164_5 hs, Option.bind_some, ht.2.2.2 (by omega), decide_eq_true e, Bool.true_and]
    have hb := (hT.2.2 t.1 (by have := hg.1.2.2.2.2 (by omega); have := hg.1.2.1; omega)).1
    by_cases e2 : tb t.1 = c
    · rw [if_pos ((sb_eq hb hc).mpr e2), decide_eq_true e2]
    · rw [if_neg (fun z => e2 ((sb_eq hb hc).mp z)), decide_eq_false e2]
  · rw [if_neg (show ¬ nI t.2.2 = 4 from fun z => e ((nI_eq (b := 4) (by omega) (by omega)).mp z)), decide_eq_false e, Bool.false_and]
theorem c_isNumber (hs : St S R) (hg : TKg tb N t) (ht : TkC tb t I) : F_X9_isNumber (some 164) (mk S I L R n) = some (b2i (decide (t.2.2 = 3)), mk S I L R n) := by
  unfold F_X9_isNumber F_X9_isNumber_13
  have hk := hg.1.2.2.2.1
  rw [gi_164_4 hs, Option.bind_some, ht.2.2.1, rZ_1, rZ_0]
  by_cases e : t.2.2 = 3
  · rw [if_pos (by rw [e]; rfl), decide_eq_true e]
  · rw [if_neg (show ¬ nI t.2.2 = 3 from fun z => e ((nI_eq (b := 3) (by omega) (by omega)).mp z)), decide_eq_false e]
theorem c_isEnd (hs : St S R) (hg : TKg tb N t) (ht : TkC tb t I) : F_X9_isEnd (some 164) (mk S I L R n) = some (b2i (decide (t.2.2 = 0)), mk S I L R n) := by
  unfold F_X9_isEnd F_X9_isEnd_12
  have hk := hg.1.2.2.2.1
  rw [gi_164_4 hs, Option.bind_some, ht.2.2.1, rZ_1, rZ_0]
  by_cases e : t.2.2 = 0
  · rw [if_pos (by rw [e]; rfl), decide_eq_true e]
  · rw [if_neg (show ¬ nI t.2.2 = 0 from fun z => e ((nI_eq (b := 0) (by omega) (by omega)).mp z)), decide_eq_false e]
theorem c_isBad (hs : St S R) (hg : TKg tb N t) (ht : TkC tb t I) : F_X9_isBad (some 164) (mk S I L R n) = some (b2i (decide (t.2.2 = 1)), mk S I L R n) := by
  unfold F_X9_isBad F_X9_isBad_13
  have hk := hg.1.2.2.2.1
  rw [gi_164_4 hs, Option.bind_some, ht.2.2.1, rZ_1, rZ_0]
  by_cases e : t.2.2 = 1
  · rw [if_pos (by rw [e]; rfl), decide_eq_true e]
  · rw [if_neg (show ¬ nI t.2.2 = 1 from fun z => e ((nI_eq (b := 1) (by omega) (by omega)).mp z)), decide_eq_false e]
theorem c_tstart (hs : St S R) (ht : TkC tb t I) : F_X9_start (some 164) (mk S I L R n) = some (nI t.1, mk S I L R n) := by
  unfold F_X9_start
  rw [gi_164_3 hs, Option.bind_some, ht.2.1]
theorem c_tnum (hs : St S R) (hT : TpC tb N I) (hg : TKg tb N t) (ht : TkC tb t I) (h3 : t.2.2 = 3) : F_X9_number (some 164) (mk S I L R n) = some (nI (nmV tb t), mk S I L R n) := by
  obtain ⟨d1, d2⟩ := hg.2.1 h3
  have hN := hT.1
  have he := hg.1.2.1
  have key : ∀ (r g i x : Nat), i + r = t.2.1 → r < g → t.1 ≤ i → F_X9_number_7 g (some 164) (nI x) (nI i) (mk S I L R n) = some (nI (numV tb r i x), mk S I L R n) := by
    intro r
    induction r with
    | zero =>
      intro g i x hi hg' h1
      obtain ⟨g, rfl⟩ : ∃ y, g = y + 1 := ⟨g - 1, by omega⟩
      simp only [F_X9_number_7, F_X9_number_44]
      rw [gi_164_2 hs, Option.bind_some, ht.1, if_pos (nI_le (by omega) (by omega))]
      rfl
    | succ r ih =>
      intro g i x hi hg' h1
      obtain ⟨g, rfl⟩ : ∃ y, g = y + 1 := ⟨g - 1, by omega⟩
      have hd := isDg_b (d2 i h1 (by omega))
      have e1 : (10 : Int32) * nI x + sb (tb i) - 48 = nI (10 * x + tb i - 48) := by
        rw [(sb_all (tb i) (hT.2.2 i (by omega)).1).2.2.2.2.2.2.1 (by omega), show (10 : Int32) * nI x = nI (10 * x) from nI_mul9 10 x, nI_add, show (48 : Int32) = nI 48 from rfl, nI_sub (by omega)]
      simp only [F_X9_number_7]
      rw [gi_164_2 hs, Option.bind_some, ht.1, if_neg (nI_ge (by omega) (by omega)), gi_164_1 hs, Option.bind_some, hT.2.1, if_neg (nI_ge (by omega) (by omega)), gr_164_0 hs, Option.bind_some, ab_129 hs hT.1 hT (by omega), Option.bind_some, e1, nI_1, ih g (i + 1) _ (by omega) (by omega) (by omega), numV]
  unfold F_X9_number
  rw [gi_164_3 hs, Option.bind_some, ht.2.1]
  exact key (t.2.1 - t.1) mm_N t.1 0 (by have := hg.1.2.2.1; omega) (by show t.2.1 - t.1 < 1000000; omega) (Nat.le_refl _)
theorem c_isWord (hs : St S R) (hl : Low Ls xs S I R) (hT : TpC tb N I) (hg : TKg tb N t) (ht : TkC tb t I) {a : Nat} (ha : a < 51) : F_X9_isWord (some 164) (some a) (mk S I L R n) = some (b2i (wB tb t (wsOf a)), mk S I L R n) := by
  obtain ⟨w1, w2, w3⟩ := ws_all a ha
  have hN := hT.1
  have he := hg.1.2.1
  have hse := hg.1.2.2.1
  have hk := hg.1.2.2.2.1
  have hcv : ∀ {α : Type} {q : Option α}, cV (mk S I L R n) (some a) 13 q = q := fun {_ _} => mk_cV (c := 13) (by rw [(hl.1 a ha).1])
  have key : t.2.1 - t.1 = (wsOf a).length → ∀ (r g i : Nat), i + r = (wsOf a).length → r < g → F_X9_isWord_28 g (some 164) (some a) (nI i) (mk S I L R n) = some (b2i ((List.range' i r).all fun i => decide (tb (t.1 + i) = (wsOf a).getD i 0)), mk S I L R n) := by
    intro hlen r
    induction r with
    | zero =>
      intro g i hi hg'
      obtain ⟨g, rfl⟩ : ∃ y, g = y + 1 := ⟨g - 1, by omega⟩
      simp only [F_X9_isWord_28]
      rw [hcv, j_len hl ha, b2_some, if_pos (nI_le (by omega) (by omega)), rZ_1]
      rfl
    | succ r ih =>
      intro g i hi hg'
      obtain ⟨g, rfl⟩ : ∃ y, g = y + 1 := ⟨g - 1, by omega⟩
      obtain ⟨c1, c2⟩ := w3 i (by omega)
      have hb := (hT.2.2 (t.1 + i) (by omega)).1
      rw [List.range'_succ, List.all_cons]
      simp only [F_X9_isWord_28, F_X9_isWord_68]
      rw [hcv, j_len hl ha, b2_some, if_neg (nI_ge (by omega) (by omega)), gi_164_3 hs, Option.bind_some, gi_164_1 hs, Option.bind_some, ht.2.1, hT.2.1, nI_add, if_neg (nI_ge (by omega) (by omega)), gr_164_0 hs, Option.bind_some, Option.bind_some, nI_add, ab_129 hs hT.1 hT (by omega), Option.bind_some, hcv, j_char hl ha (by omega), b2_some, c1, nI_1, ih g (i + 1) (by omega) (by omega), rZ_0]
      by_cases e : tb (t.1 + i) = (wsOf a).getD i 0
      · rw [if_pos ((sb_eq hb c2).mpr e), decide_eq_true e, Bool.true_and]
      · rw [if_neg (fun z => e ((sb_eq hb c2).mp z)), decide_eq_false e, Bool.false_and]
  unfold F_X9_isWord F_X9_isWord_24 wB
  rw [gi_164_4 hs, Option.bind_some, ht.2.2.1, rZ_0]
  by_cases e : t.2.2 = 2
  · rw [if_pos (by rw [e]; rfl), gi_164_2 hs, Option.bind_some, gi_164_3 hs, Option.bind_some, ht.1, ht.2.1, hcv, j_len hl ha, b2_some, nI_sub hse, decide_eq_true e, Bool.true_and]
    by_cases e2 : t.2.1 - t.1 = (wsOf a).length
    · rw [if_pos (by rw [e2, w1]), decide_eq_true e2, Bool.true_and, List.range_eq_range']
      exact key e2 _ mm_N 0 (by omega) (by show (wsOf a).length < 1000000; omega)
    · rw [if_neg (fun z => e2 (by have := (nI_eq (by omega) (by omega)).mp z; omega)), decide_eq_false e2, Bool.false_and, rZ_0]
  · rw [if_neg (show ¬ nI t.2.2 = 2 from fun z => e ((nI_eq (b := 2) (by omega) (by omega)).mp z)), decide_eq_false e, Bool.false_and]
end CT
