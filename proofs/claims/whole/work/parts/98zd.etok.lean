/-! the reference's tokens -/
def rtk (tb : Nat → Nat) (t : TKN) : Nat := if t.2.2 = 0 then 0 else if t.2.2 = 1 then 3 else if t.2.2 = 2 then 1 else if t.2.2 = 3 then 2 else tb t.1
def TpR (tb : Nat → Nat) (N : Nat) (I : mkI) : Prop := N ≤ 900 ∧ I 197 7 = nI N ∧ ∀ j, j < N → tb j < 256 ∧ I 202 j = nI (tb j)
def TkR (tb : Nat → Nat) (t : TKN) (I : mkI) : Prop := I 197 8 = nI t.2.1 ∧ I 197 9 = nI t.1 ∧ I 197 10 = nI (rtk tb t) ∧ (t.2.2 = 3 → I 197 11 = nI (nmV tb t))
def kM (I I' : mkI) : Prop := (∀ x, x ≠ 197 → I' x = I x) ∧ ∀ j, ¬ (8 ≤ j ∧ j ≤ 11) → I' 197 j = I 197 j
theorem kM.rf {I : mkI} : kM I I := ⟨fun _ _ => rfl, fun _ _ => rfl⟩
theorem kM.tr {I I' I'' : mkI} (h : kM I I') (h2 : kM I' I'') : kM I I'' := ⟨fun x a => (h2.1 x a).trans (h.1 x a), fun j a => (h2.2 j a).trans (h.2 j a)⟩
theorem kM.up {I : mkI} {j : Nat} {v : Int32} (hj : 8 ≤ j ∧ j ≤ 11) : kM I (up2 I 197 j v) := ⟨fun x a => up2_ne _ _ _ a, fun i a => by rw [up2_row, up1_ne _ _ (by omega)]⟩
theorem kM.tp {tb : Nat → Nat} {N : Nat} {I I' : mkI} (k : kM I I') (h : TpR tb N I) : TpR tb N I' := by
  unfold TpR
  rw [k.2 7 (by omega), k.1 _ (by decide)]; exact h
theorem rtk_all {tb : Nat → Nat} {N : Nat} {t : TKN} (hg : TKg tb N t) : rtk tb t < 256 ∧ (rtk tb t = 0 ↔ t.2.2 = 0) ∧ (rtk tb t = 3 ↔ t.2.2 = 1) ∧ (rtk tb t = 1 ↔ t.2.2 = 2) ∧ (rtk tb t = 2 ↔ t.2.2 = 3) ∧ ∀ c, 40 ≤ c → (rtk tb t = c ↔ t.2.2 = 4 ∧ tb t.1 = c) := by
  have hk := hg.1.2.2.2.1
  have h4 : t.2.2 = 4 → 40 ≤ tb t.1 ∧ tb t.1 < 128 := fun h => by
    have := hg.2.2 h
    have key : isSg (tb t.1) = true → 40 ≤ tb t.1 ∧ tb t.1 < 128 := fun z => by
      have : tb t.1 ∈ sgL := List.contains_iff_mem.mp z
      simp only [sgL, List.mem_cons, List.not_mem_nil, or_false] at this
      omega
    exact key this
  unfold rtk
  obtain ⟨a, b, c⟩ := t
  simp only at hk h4 ⊢
  by_cases e0 : c = 0
  · rw [if_pos e0]; exact ⟨by omega, by omega, by omega, by omega, by omega, fun d hd => by omega⟩
  · rw [if_neg e0]
    by_cases e1 : c = 1
    · rw [if_pos e1]; exact ⟨by omega, by omega, by omega, by omega, by omega, fun d hd => by omega⟩
    · rw [if_neg e1]
      by_cases e2 : c = 2
      · rw [if_pos e2]; exact ⟨by omega, by omega, by omega, by omega, by omega, fun d hd => by omega⟩
      · rw [if_neg e2]
        by_cases e3 : c = 3
        · rw [if_pos e3]; exact ⟨by omega, by omega, by omega, by omega, by omega, fun d hd => by omega⟩
        · rw [if_neg e3]
          have e4 : c = 4 := by omega
          have := h4 e4
          refine ⟨by omega, by omega, by omega, by omega, by omega, fun d hd => ⟨fun z => ⟨e4, z⟩, fun z => z.2⟩⟩
section ET
variable {S : mkS} {L : mkL} {R : mkR} {n : Nat × Nat} {tb : Nat → Nat} {N : Nat}
theorem ab_202 (hs : St S R) {I : mkI} (h : TpR tb N I) {j : Nat} (hj : j < N) : aI (mk S I L R n) (some 202) 0 (nI j) = some (nI (tb j)) := by
  rw [ai_202 hs (by have := h.1; omega), (h.2.2 j hj).2]
theorem e_isLt {b : Nat} (hb : b < 256) (h : MH) : F_X12_isLetter (nI b) h = some (b2i (isLt b), h) := by
  unfold F_X12_isLetter F_X12_isLetter_16 F_X12_isLetter_17
  have k := (nb_all b hb).2.2.1
  rw [rZ_0, rZ_1]
  by_cases e1 : nI b < 97
  · rw [if_pos e1, show isLt b = false from Bool.eq_false_iff.mpr (fun z => (k.mp z).1 e1)]
  · rw [if_neg e1]
    by_cases e2 : (122 : Int32) < nI b
    · rw [if_pos e2, show isLt b = false from Bool.eq_false_iff.mpr (fun z => (k.mp z).2 e2)]
    · rw [if_neg e2, k.mpr ⟨e1, e2⟩]
theorem e_isDg {b : Nat} (hb : b < 256) (h : MH) : F_X12_isDigit (nI b) h = some (b2i (isDg b), h) := by
  unfold F_X12_isDigit F_X12_isDigit_16 F_X12_isDigit_17
  have k := (nb_all b hb).2.2.2
  rw [rZ_0, rZ_1]
  by_cases e1 : nI b < 48
  · rw [if_pos e1, show isDg b = false from Bool.eq_false_iff.mpr (fun z => (k.mp z).1 e1)]
  · rw [if_neg e1]
    by_cases e2 : (57 : Int32) < nI b
    · rw [if_pos e2, show isDg b = false from Bool.eq_false_iff.mpr (fun z => (k.mp z).2 e2)]
    · rw [if_neg e2, k.mpr ⟨e1, e2⟩]
theorem e_isSg {b : Nat} (hb : b < 256) (h : MH) : F_X12_isSignByte (nI b) h = some (b2i (isSg b), h) := by
  have q : ∀ c : Nat, c < 256 → ((nI b = nI c) = (b = c)) := fun c hc => propext (nI_eq (by omega) (by omega))
  have q91 := q 91 (by decide)
  have q93 := q 93 (by decide)
  have q61 := q 61 (by decide)
  have q60 := q 60 (by decide)
  have q62 := q 62 (by decide)
  have q58 := q 58 (by decide)
  have q59 := q 59 (by decide)
  have q43 := q 43 (by decide)
  have q45 := q 45 (by decide)
  have q42 := q 42 (by decide)
  have q40 := q 40 (by decide)
  have q41 := q 41 (by decide)
  change (nI b = 91) = _ at q91
  change (nI b = 93) = _ at q93
  change (nI b = 61) = _ at q61
  change (nI b = 60) = _ at q60
  change (nI b = 62) = _ at q62
  change (nI b = 58) = _ at q58
  change (nI b = 59) = _ at q59
  change (nI b = 43) = _ at q43
  change (nI b = 45) = _ at q45
  change (nI b = 42) = _ at q42
  change (nI b = 40) = _ at q40
  change (nI b = 41) = _ at q41
  have k := sg_all b hb
  have r : isSg b = decide (b = 91 ∨ b = 93 ∨ b = 61 ∨ b = 60 ∨ b = 62 ∨ b = 58 ∨ b = 59 ∨ b = 43 ∨ b = 45 ∨ b = 42 ∨ b = 40 ∨ b = 41) := by
    rw [Bool.eq_iff_iff, k, decide_eq_true_eq]
  rw [r]
  unfold F_X12_isSignByte F_X12_isSignByte_36 F_X12_isSignByte_41 F_X12_isSignByte_82 F_X12_isSignByte_87
  simp only [q91, q93, q61, q60, q62, q58, q59, q43, q45, q42, q40, q41, rZ_0, rZ_1, show ¬ (1 : Int32) = 0 by decide, if_false, if_true]
  by_cases e1 : b = 91
  · rw [if_pos e1, decide_eq_true (by omega)]
  rw [if_neg e1]
  by_cases e2 : b = 93
  · rw [if_pos e2, decide_eq_true (by omega)]
  rw [if_neg e2]
  by_cases e3 : b = 61
  · rw [if_pos e3, decide_eq_true (by omega)]
  rw [if_neg e3]
  by_cases e4 : b = 60
  · rw [if_pos e4, decide_eq_true (by omega)]
  rw [if_neg e4]
  by_cases e5 : b = 62
  · rw [if_pos e5, decide_eq_true (by omega)]
  rw [if_neg e5]
  by_cases e6 : b = 58
  · rw [if_pos e6, decide_eq_true (by omega)]
  rw [if_neg e6]
  by_cases e7 : b = 59
  · rw [if_pos e7, decide_eq_true (by omega)]
  rw [if_neg e7]
  by_cases e8 : b = 43
  · rw [if_pos e8, decide_eq_true (by omega)]
  rw [if_neg e8]
  by_cases e9 : b = 45
  · rw [if_pos e9, decide_eq_true (by omega)]
  rw [if_neg e9]
  by_cases e10 : b = 42
  · rw [if_pos e10, decide_eq_true (by omega)]
  rw [if_neg e10]
  by_cases e11 : b = 40
  · rw [if_pos e11, decide_eq_true (by omega)]
  rw [if_neg e11]
  by_cases e12 : b = 41
  · rw [if_pos e12, decide_eq_true (by omega)]
  rw [if_neg e12, decide_eq_false (by omega)]
theorem e_see (hs : St S R) {I : mkI} (hT : TpR tb N I) {j : Nat} (hj : j < 1000) : F_X12_see (some 197) (nI j) (mk S I L R n) = some (nI (if N ≤ j then 0 else tb j), mk S I L R n) := by
  have := hT.1
  unfold F_X12_see F_X12_see_18
  rw [gi_197_7 hs, Option.bind_some, hT.2.1]
  by_cases e : N ≤ j
  · rw [if_pos (nI_le e (by omega)), if_pos e]; rfl
  · rw [if_neg (nI_ge (by omega) (by omega)), gr_197_5 hs, Option.bind_some, ab_202 hs hT (by omega), Option.bind_some, if_neg e]
theorem e_letters (hs : St S R) : ∀ (r g q : Nat) (I : mkI), q + r = N → r < g → TpR tb N I → I 197 8 = nI q → ∃ I', F_X12_readsOn_94 g (some 197) (mk S I L R n) = some (mk S I' L R n) ∧ I' 197 8 = nI (rn isLt tb r q) ∧ I' 197 10 = 1 ∧ kM I I' ∧ I' 197 9 = I 197 9 := by
  intro r
  induction r with
  | zero =>
    intro g q I hq hg hT h8
    obtain ⟨g, rfl⟩ : ∃ y, g = y + 1 := ⟨g - 1, by omega⟩
    have hN := hT.1
    refine ⟨up2 I 197 10 1, ?_, by rw [up2_row, up1_ne _ _ (by decide)]; exact h8, up2_self _ _ _ _, kM.up (by omega), by rw [up2_row, up1_ne _ _ (by decide)]⟩
    simp only [F_X12_readsOn_94, F_X12_readsOn_263]
    rw [gi_197_8 hs, Option.bind_some, h8, cv_197 hs, e_see hs hT (by omega), b2_some, if_pos (show N ≤ q by omega), e_isLt (by decide), b2_some, if_pos (by decide), pi_197_10 hs, Option.bind_some]
  | succ r ih =>
    intro g q I hq hg hT h8
    obtain ⟨g, rfl⟩ : ∃ y, g = y + 1 := ⟨g - 1, by omega⟩
    have hN := hT.1
    have hb := (hT.2.2 q (by omega)).1
    simp only [F_X12_readsOn_94, F_X12_readsOn_263]
    rw [gi_197_8 hs, Option.bind_some, h8, cv_197 hs, e_see hs hT (by omega), b2_some, if_neg (show ¬ N ≤ q by omega), e_isLt hb, b2_some, rn]
    by_cases e : isLt (tb q) = true
    · obtain ⟨I', q1, q2, q3, q4, q5⟩ := ih g (q + 1) (up2 I 197 8 (nI (q + 1))) (by omega) (by omega) ((kM.up (by omega)).tp hT) (up2_self _ _ _ _)
      rw [if_pos e, e, if_neg (by decide), gi_197_8 hs, Option.bind_some, h8, nI_1, pi_197_8 hs, Option.bind_some]
      exact ⟨I', q1, q2, q3, (kM.up (by omega)).tr q4, by rw [q5, up2_row, up1_ne _ _ (by decide)]⟩
    · rw [if_neg e, show isLt (tb q) = false by simpa using e, if_pos (show b2i false = 0 from rfl), pi_197_10 hs, Option.bind_some]
      exact ⟨_, rfl, by rw [up2_row, up1_ne _ _ (by decide)]; exact h8, up2_self _ _ _ _, kM.up (by omega), by rw [up2_row, up1_ne _ _ (by decide)]⟩
end ET
