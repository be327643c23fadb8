/-! the law: its cases -/
def CK (K : Option Nat → Option Nat → Option Nat → Option Nat → Int32 → MH → Option (Int32 × MH)) (Ls : Nat) (xs : Nat → Int32) (k i : Nat) : Prop := ∀ S I L R n, AllInv Ls xs k S I L R n → ∃ hz, K (some 121) (some 128) (some 197) (some 220) (nI i) (mk S I L R n) = some (1, hz)
theorem AllInv.st {Ls : Nat} {xs : Nat → Int32} {k : Nat} {S : mkS} {I : mkI} {L : mkL} {R : mkR} {n : Nat × Nat} (h : AllInv Ls xs k S I L R n) : St S R := by
  obtain ⟨-, tb, tn, fk, fp, w, tr, im, hC, -⟩ := h
  exact hC.1.1
theorem mk_aS {Ls : Nat} {xs : Nat → Int32} {S : mkS} {I : mkI} {L : mkL} {R : mkR} {n : Nat × Nat} (h : Low Ls xs S I R) (hL : Ls ≤ 3072) {i : Nat} (c : Nat) (hi : i + c < Ls) : aS (mk S I L R n) (some 121) (nI i + nI c) = some (xs (i + c)) := by
  unfold aS
  rw [if_pos rfl, nI_add, mk_aJ7 h.2.1 hi (by omega), h.2.2.1 _ hi]
theorem e_thrown {S : mkS} {I : mkI} {L : mkL} {R : mkR} {n : Nat × Nat} (hs : St S R) : F_X12_thrown (some 197) (mk S I L R n) = some (I 197 4, mk S I L R n) := by
  unfold F_X12_thrown
  rw [gi_197_4 hs, Option.bind_some]
theorem lg_self (x : Int64) : lg_cmp x x = 0 := by
  rw [lg_cmp_eq]
theorem out_g {S : mkS} {I : mkI} {L : mkL} {R : mkR} {n : Nat × Nat} (hs : St S R) : aL (mk S I L R n) (some 220) (0 : Int32) = some (L 220 0) := mk_aL (S_220 hs) (by decide) (by decide)
theorem at_b13 : ∀ (n : Nat) (l0 : Option Nat) (l1 l2 l3 : Int32) (h : MH) (q : Int32 × MH), F_X12_atOnce_13 n l0 l1 l2 l3 h = some q → q.1 = 0 ∨ q.1 = 1 := by
  have b2 : ∀ {α γ : Type} {o : Option (α × MH)} {f : α → MH → Option γ} {r : γ}, mm_b2 o f = some r → ∃ a h, o = some (a, h) ∧ f a h = some r := fun {α γ o f r} e => by
    cases o with
    | none => cases e
    | some p => exact ⟨p.1, p.2, rfl, e⟩
  have ob : ∀ {α γ : Type} {o : Option α} {f : α → Option γ} {r : γ}, o.bind f = some r → ∃ a, o = some a ∧ f a = some r := fun {α γ o f r} e => by
    cases o with
    | none => cases e
    | some p => exact ⟨p, rfl, e⟩
  have e87 : ∀ (s : Int32) (h : MH) (q : Int32 × MH), F_X12_atOnce_87 s h = some q → q.1 = 0 ∨ q.1 = 1 := fun s h q e => by
    obtain ⟨r1, r2⟩ := rZ_some (show rZ s h = some q from e)
    cases r2
    exact r1
  have e65 : ∀ l0 l1 (h : MH) (q : Int32 × MH), F_X12_atOnce_65 l0 l1 h = some q → q.1 = 0 ∨ q.1 = 1 := fun l0 l1 h q e => by
    unfold F_X12_atOnce_65 F_X12_atOnce_86 at e
    obtain ⟨a, -, e⟩ := ob e
    by_cases c : a = 0
    · rw [if_pos c] at e
      obtain ⟨v, h2, -, e⟩ := b2 e
      by_cases c2 : v = 0
      · rw [if_pos c2] at e; exact e87 _ _ _ e
      · rw [if_neg c2] at e; exact e87 _ _ _ e
    · rw [if_neg c] at e; exact e87 _ _ _ e
  intro n
  induction n with
  | zero => intro l0 l1 l2 l3 h q e; exact nomatch (show none = some q from e)
  | succ n ih =>
    intro l0 l1 l2 l3 h q e
    have e48 : ∀ l0 l1 l2 l3 (h : MH) (q : Int32 × MH), F_X12_atOnce_48 (F_X12_atOnce_13 n) l0 l1 l2 l3 h = some q → q.1 = 0 ∨ q.1 = 1 := fun l0 l1 l2 l3 h q e => by
      unfold F_X12_atOnce_48 at e
      obtain ⟨v, h2, -, e⟩ := b2 e
      exact ih _ _ _ _ _ _ e
    simp only [F_X12_atOnce_13] at e
    obtain ⟨a, -, e⟩ := ob e
    by_cases c : a = 0
    · rw [if_pos c] at e
      obtain ⟨a2, -, e⟩ := ob e
      obtain ⟨a3, -, e⟩ := ob e
      by_cases c2 : a3 ≤ l3
      · rw [if_pos c2] at e; exact e65 _ _ _ _ e
      · rw [if_neg c2] at e
        obtain ⟨v, h2, -, e⟩ := b2 e
        obtain ⟨v2, h3, -, e⟩ := b2 e
        by_cases c3 : v2 = 0
        · rw [if_pos c3] at e; exact e48 _ _ _ _ _ _ e
        · rw [if_neg c3] at e
          obtain ⟨h4, -, e⟩ := ob e
          exact e48 _ _ _ _ _ _ e
    · rw [if_neg c] at e; exact e65 _ _ _ _ e
theorem at_b {a : Int32} {h h' : MH} {v : Int32} (e : F_X12_atOnce (some 197) a h = some (v, h')) : v = 0 ∨ v = 1 := by
  unfold F_X12_atOnce at e
  cases ho : cV h (some 197) 12 (F_X12_twosFault (some 197) a h) with
  | none => rw [ho] at e; cases e
  | some q =>
    rw [ho] at e
    have e : ((pI q.2 (some 197) 12 4 q.1).bind fun h6 => F_X12_atOnce_13 mm_N (some 197) a 0 0 h6) = some (v, h') := e
    cases hp : pI q.2 (some 197) 12 4 q.1 with
    | none => rw [hp] at e; cases e
    | some z => rw [hp] at e; exact at_b13 _ _ _ _ _ _ _ e
section LW1
variable {Ls : Nat} {xs : Nat → Int32} {K : Option Nat → Option Nat → Option Nat → Option Nat → Int32 → MH → Option (Int32 × MH)} {k i : Nat} {S : mkS} {I : mkI} {L : mkL} {R : mkR} {n : Nat × Nat}
theorem b_feed (hL : Ls ≤ 3072) (hK : CK K Ls xs k (i + 6)) (hi : i + 6 ≤ Ls) (hA : AllInv Ls xs (k + 1) S I L R n) : ∃ hz, F_L_law_232 K (some 121) (some 128) (some 197) (some 220) (nI i) (mk S I L R n) = some (1, hz) := by
  obtain ⟨v, S', I', L', R', n', I'', L'', h1, h3, hA', hlo⟩ := k_feed Ls xs (xs (i + 1)) (xs (i + 2)) (xs (i + 3)) (xs (i + 4)) (xs (i + 5)) k S I L R n hA
  have hs' := hA'.st
  have hs := hA.st
  obtain ⟨hz, hq⟩ := hK _ _ _ _ _ hA'
  have q1 : ∀ c : Nat, c < 6 → aS (mk S I L R n) (some 121) (nI i + nI c) = some (xs (i + c)) := fun c hc => mk_aS hA.1 hL c (by omega)
  have q2 : ∀ c : Nat, c < 6 → aS (mk S' I' L' R' n') (some 121) (nI i + nI c) = some (xs (i + c)) := fun c hc => mk_aS hlo hL c (by omega)
  refine ⟨hz, ?_⟩
  unfold F_L_law_232 F_L_law_2603
  rw [show aS (mk S I L R n) (some 121) (nI i + (1 : Int32)) = _ from q1 1 (by decide), Option.bind_some, show aS (mk S I L R n) (some 121) (nI i + (2 : Int32)) = _ from q1 2 (by decide), Option.bind_some, show aS (mk S I L R n) (some 121) (nI i + (3 : Int32)) = _ from q1 3 (by decide), Option.bind_some, show aS (mk S I L R n) (some 121) (nI i + (4 : Int32)) = _ from q1 4 (by decide), Option.bind_some, show aS (mk S I L R n) (some 121) (nI i + (5 : Int32)) = _ from q1 5 (by decide), Option.bind_some, cv_128 hs, h1, b2_some, show aS (mk S' I' L' R' n') (some 121) (nI i + (1 : Int32)) = _ from q2 1 (by decide), Option.bind_some, show aS (mk S' I' L' R' n') (some 121) (nI i + (2 : Int32)) = _ from q2 2 (by decide), Option.bind_some, show aS (mk S' I' L' R' n') (some 121) (nI i + (3 : Int32)) = _ from q2 3 (by decide), Option.bind_some, show aS (mk S' I' L' R' n') (some 121) (nI i + (4 : Int32)) = _ from q2 4 (by decide), Option.bind_some, show aS (mk S' I' L' R' n') (some 121) (nI i + (5 : Int32)) = _ from q2 5 (by decide), Option.bind_some, cv_197 hs', h3, b2_some, if_pos rfl, show nI i + (6 : Int32) = nI (i + 6) from nI_add i 6]
  exact hq
theorem b_exchange (hL : Ls ≤ 3072) (hk : k ≤ 512) (hK : CK K Ls xs k (i + 6)) (hi : i + 6 ≤ Ls) (hA : AllInv Ls xs (k + 1) S I L R n) : ∃ hz, F_L_law_305 K (some 121) (some 128) (some 197) (some 220) (nI i) (mk S I L R n) = some (1, hz) := by
  obtain ⟨t, v, S', I', L', R', n', I'', L'', h1, h2, h3, h4, h5, hA', hlo⟩ := k_exchange Ls xs (xs (i + 1)) k S I L R n hk hA
  have hs' := hA'.st
  have hs := hA.st
  obtain ⟨hz, hq⟩ := hK _ _ _ _ _ hA'
  have q1 : ∀ c : Nat, c < 6 → aS (mk S I L R n) (some 121) (nI i + nI c) = some (xs (i + c)) := fun c hc => mk_aS hA.1 hL c (by omega)
  have q2 : ∀ c : Nat, c < 6 → aS (mk S' I' L' R' n') (some 121) (nI i + nI c) = some (xs (i + c)) := fun c hc => mk_aS hlo hL c (by omega)
  refine ⟨hz, ?_⟩
  unfold F_L_law_305 F_L_law_358 F_L_law_2603
  rw [show aS (mk S I L R n) (some 121) (nI i + (1 : Int32)) = _ from q1 1 (by decide), Option.bind_some, h1, b2_some, show aS (mk S' I' L' R' n') (some 121) (nI i + (1 : Int32)) = _ from q2 1 (by decide), Option.bind_some, cv_197 hs', h3, b2_some, cv_197 hs', e_thrown hs', b2_some, h4, if_pos rfl, show nI i + (6 : Int32) = nI (i + 6) from nI_add i 6]
  by_cases e : t = 0
  · rw [if_pos e, out_g hs', Option.bind_some, h5, h2 e, lg_self, if_pos rfl]
    exact hq
  · rw [if_neg e]
    exact hq
theorem b_fault (hL : Ls ≤ 3072) (hK : CK K Ls xs k (i + 6)) (hi : i + 6 ≤ Ls) (hA : AllInv Ls xs (k + 1) S I L R n) : ∃ hz, F_L_law_361 K (some 121) (some 128) (some 197) (some 220) (nI i) (mk S I L R n) = some (1, hz) := by
  obtain ⟨v, S', I', L', R', n', I'', L'', h1, h3, hA', hlo⟩ := k_fault Ls xs (xs (i + 1)) k S I L R n hA
  have hs' := hA'.st
  have hs := hA.st
  obtain ⟨hz, hq⟩ := hK _ _ _ _ _ hA'
  have q1 : ∀ c : Nat, c < 6 → aS (mk S I L R n) (some 121) (nI i + nI c) = some (xs (i + c)) := fun c hc => mk_aS hA.1 hL c (by omega)
  have q2 : ∀ c : Nat, c < 6 → aS (mk S' I' L' R' n') (some 121) (nI i + nI c) = some (xs (i + c)) := fun c hc => mk_aS hlo hL c (by omega)
  refine ⟨hz, ?_⟩
  unfold F_L_law_361 F_L_law_2603
  rw [show aS (mk S I L R n) (some 121) (nI i + (1 : Int32)) = _ from q1 1 (by decide), Option.bind_some, cv_128 hs, h1, b2_some, show aS (mk S' I' L' R' n') (some 121) (nI i + (1 : Int32)) = _ from q2 1 (by decide), Option.bind_some, cv_197 hs', h3, b2_some, if_pos rfl, show nI i + (6 : Int32) = nI (i + 6) from nI_add i 6]
  exact hq
theorem b_line (hL : Ls ≤ 3072) (hK : CK K Ls xs k (i + 6)) (hi : i + 6 ≤ Ls) (hA : AllInv Ls xs (k + 1) S I L R n) : ∃ hz, F_L_law_386 K (some 121) (some 128) (some 197) (some 220) (nI i) (mk S I L R n) = some (1, hz) := by
  obtain ⟨t, v, S', I', L', R', n', I'', L'', h1, h2, h3, h4, h5, hA', hlo⟩ := k_line Ls xs (xs (i + 1)) (xs (i + 2)) k S I L R n hA
  have hs' := hA'.st
  have hs := hA.st
  obtain ⟨hz, hq⟩ := hK _ _ _ _ _ hA'
  have q1 : ∀ c : Nat, c < 6 → aS (mk S I L R n) (some 121) (nI i + nI c) = some (xs (i + c)) := fun c hc => mk_aS hA.1 hL c (by omega)
  have q2 : ∀ c : Nat, c < 6 → aS (mk S' I' L' R' n') (some 121) (nI i + nI c) = some (xs (i + c)) := fun c hc => mk_aS hlo hL c (by omega)
  refine ⟨hz, ?_⟩
  unfold F_L_law_386 F_L_law_451 F_L_law_2603
  rw [show aS (mk S I L R n) (some 121) (nI i + (1 : Int32)) = _ from q1 1 (by decide), Option.bind_some, show aS (mk S I L R n) (some 121) (nI i + (2 : Int32)) = _ from q1 2 (by decide), Option.bind_some, h1, b2_some, show aS (mk S' I' L' R' n') (some 121) (nI i + (1 : Int32)) = _ from q2 1 (by decide), Option.bind_some, show aS (mk S' I' L' R' n') (some 121) (nI i + (2 : Int32)) = _ from q2 2 (by decide), Option.bind_some, cv_197 hs', h3, b2_some, cv_197 hs', e_thrown hs', b2_some, h4, if_pos rfl, show nI i + (6 : Int32) = nI (i + 6) from nI_add i 6]
  by_cases e : t = 0
  · rw [if_pos e, out_g hs', Option.bind_some, h5, h2 e, lg_self, if_pos rfl]
    exact hq
  · rw [if_neg e]
    exact hq
theorem b_cord (hL : Ls ≤ 3072) (hK : CK K Ls xs k (i + 6)) (hi : i + 6 ≤ Ls) (hA : AllInv Ls xs (k + 1) S I L R n) : ∃ hz, F_L_law_454 K (some 121) (some 128) (some 197) (some 220) (nI i) (mk S I L R n) = some (1, hz) := by
  obtain ⟨t, v, S', I', L', R', n', I'', L'', h1, h2, h3, h4, h5, hA', hlo⟩ := k_cord Ls xs (xs (i + 1)) (xs (i + 2)) k S I L R n hA
  have hs' := hA'.st
  have hs := hA.st
  obtain ⟨hz, hq⟩ := hK _ _ _ _ _ hA'
  have q1 : ∀ c : Nat, c < 6 → aS (mk S I L R n) (some 121) (nI i + nI c) = some (xs (i + c)) := fun c hc => mk_aS hA.1 hL c (by omega)
  have q2 : ∀ c : Nat, c < 6 → aS (mk S' I' L' R' n') (some 121) (nI i + nI c) = some (xs (i + c)) := fun c hc => mk_aS hlo hL c (by omega)
  refine ⟨hz, ?_⟩
  unfold F_L_law_454 F_L_law_519 F_L_law_2603
  rw [show aS (mk S I L R n) (some 121) (nI i + (1 : Int32)) = _ from q1 1 (by decide), Option.bind_some, show aS (mk S I L R n) (some 121) (nI i + (2 : Int32)) = _ from q1 2 (by decide), Option.bind_some, h1, b2_some, show aS (mk S' I' L' R' n') (some 121) (nI i + (1 : Int32)) = _ from q2 1 (by decide), Option.bind_some, show aS (mk S' I' L' R' n') (some 121) (nI i + (2 : Int32)) = _ from q2 2 (by decide), Option.bind_some, cv_197 hs', h3, b2_some, cv_197 hs', e_thrown hs', b2_some, h4, if_pos rfl, show nI i + (6 : Int32) = nI (i + 6) from nI_add i 6]
  by_cases e : t = 0
  · rw [if_pos e, out_g hs', Option.bind_some, h5, h2 e, lg_self, if_pos rfl]
    exact hq
  · rw [if_neg e]
    exact hq
theorem b_call (hL : Ls ≤ 3072) (hK : CK K Ls xs k (i + 6)) (hi : i + 6 ≤ Ls) (hA : AllInv Ls xs (k + 1) S I L R n) : ∃ hz, F_L_law_522 K (some 121) (some 128) (some 197) (some 220) (nI i) (mk S I L R n) = some (1, hz) := by
  obtain ⟨t, v, S', I', L', R', n', I'', L'', h1, h2, h3, h4, h5, hA', hlo⟩ := k_call Ls xs (xs (i + 1)) (xs (i + 2)) k S I L R n hA
  have hs' := hA'.st
  have hs := hA.st
  obtain ⟨hz, hq⟩ := hK _ _ _ _ _ hA'
  have q1 : ∀ c : Nat, c < 6 → aS (mk S I L R n) (some 121) (nI i + nI c) = some (xs (i + c)) := fun c hc => mk_aS hA.1 hL c (by omega)
  have q2 : ∀ c : Nat, c < 6 → aS (mk S' I' L' R' n') (some 121) (nI i + nI c) = some (xs (i + c)) := fun c hc => mk_aS hlo hL c (by omega)
  refine ⟨hz, ?_⟩
  unfold F_L_law_522 F_L_law_587 F_L_law_2603
  rw [show aS (mk S I L R n) (some 121) (nI i + (1 : Int32)) = _ from q1 1 (by decide), Option.bind_some, show aS (mk S I L R n) (some 121) (nI i + (2 : Int32)) = _ from q1 2 (by decide), Option.bind_some, h1, b2_some, show aS (mk S' I' L' R' n') (some 121) (nI i + (1 : Int32)) = _ from q2 1 (by decide), Option.bind_some, show aS (mk S' I' L' R' n') (some 121) (nI i + (2 : Int32)) = _ from q2 2 (by decide), Option.bind_some, cv_197 hs', h3, b2_some, cv_197 hs', e_thrown hs', b2_some, h4, if_pos rfl, show nI i + (6 : Int32) = nI (i + 6) from nI_add i 6]
  by_cases e : t = 0
  · rw [if_pos e, out_g hs', Option.bind_some, h5, h2 e, lg_self, if_pos rfl]
    exact hq
  · rw [if_neg e]
    exact hq
theorem b_likes (hL : Ls ≤ 3072) (hK : CK K Ls xs k (i + 6)) (hi : i + 6 ≤ Ls) (hA : AllInv Ls xs (k + 1) S I L R n) : ∃ hz, F_L_law_590 K (some 121) (some 128) (some 197) (some 220) (nI i) (mk S I L R n) = some (1, hz) := by
  obtain ⟨t, v, S', I', L', R', n', I'', L'', h1, h2, h3, h4, h5, hA', hlo⟩ := k_likes Ls xs (xs (i + 1)) (xs (i + 2)) k S I L R n hA
  have hs' := hA'.st
  have hs := hA.st
  obtain ⟨hz, hq⟩ := hK _ _ _ _ _ hA'
  have q1 : ∀ c : Nat, c < 6 → aS (mk S I L R n) (some 121) (nI i + nI c) = some (xs (i + c)) := fun c hc => mk_aS hA.1 hL c (by omega)
  have q2 : ∀ c : Nat, c < 6 → aS (mk S' I' L' R' n') (some 121) (nI i + nI c) = some (xs (i + c)) := fun c hc => mk_aS hlo hL c (by omega)
  refine ⟨hz, ?_⟩
  unfold F_L_law_590 F_L_law_655 F_L_law_2603
  rw [show aS (mk S I L R n) (some 121) (nI i + (1 : Int32)) = _ from q1 1 (by decide), Option.bind_some, show aS (mk S I L R n) (some 121) (nI i + (2 : Int32)) = _ from q1 2 (by decide), Option.bind_some, h1, b2_some, show aS (mk S' I' L' R' n') (some 121) (nI i + (1 : Int32)) = _ from q2 1 (by decide), Option.bind_some, show aS (mk S' I' L' R' n') (some 121) (nI i + (2 : Int32)) = _ from q2 2 (by decide), Option.bind_some, cv_197 hs', h3, b2_some, cv_197 hs', e_thrown hs', b2_some, h4, if_pos rfl, show nI i + (6 : Int32) = nI (i + 6) from nI_add i 6]
  by_cases e : t = 0
  · rw [if_pos e, out_g hs', Option.bind_some, h5, h2 e, lg_self, if_pos rfl]
    exact hq
  · rw [if_neg e]
    exact hq
theorem b_comesTo (hL : Ls ≤ 3072) (hK : CK K Ls xs k (i + 6)) (hi : i + 6 ≤ Ls) (hA : AllInv Ls xs (k + 1) S I L R n) : ∃ hz, F_L_law_658 K (some 121) (some 128) (some 197) (some 220) (nI i) (mk S I L R n) = some (1, hz) := by
  obtain ⟨t, v, S', I', L', R', n', I'', L'', h1, h2, h3, h4, h5, hA', hlo⟩ := k_comesTo Ls xs (xs (i + 1)) (xs (i + 2)) k S I L R n hA
  have hs' := hA'.st
  have hs := hA.st
  obtain ⟨hz, hq⟩ := hK _ _ _ _ _ hA'
  have q1 : ∀ c : Nat, c < 6 → aS (mk S I L R n) (some 121) (nI i + nI c) = some (xs (i + c)) := fun c hc => mk_aS hA.1 hL c (by omega)
  have q2 : ∀ c : Nat, c < 6 → aS (mk S' I' L' R' n') (some 121) (nI i + nI c) = some (xs (i + c)) := fun c hc => mk_aS hlo hL c (by omega)
  refine ⟨hz, ?_⟩
  unfold F_L_law_658 F_L_law_723 F_L_law_2603
  rw [show aS (mk S I L R n) (some 121) (nI i + (1 : Int32)) = _ from q1 1 (by decide), Option.bind_some, show aS (mk S I L R n) (some 121) (nI i + (2 : Int32)) = _ from q1 2 (by decide), Option.bind_some, h1, b2_some, show aS (mk S' I' L' R' n') (some 121) (nI i + (1 : Int32)) = _ from q2 1 (by decide), Option.bind_some, show aS (mk S' I' L' R' n') (some 121) (nI i + (2 : Int32)) = _ from q2 2 (by decide), Option.bind_some, cv_197 hs', h3, b2_some, cv_197 hs', e_thrown hs', b2_some, h4, if_pos rfl, show nI i + (6 : Int32) = nI (i + 6) from nI_add i 6]
  by_cases e : t = 0
  · rw [if_pos e, out_g hs', Option.bind_some, h5, h2 e, lg_self, if_pos rfl]
    exact hq
  · rw [if_neg e]
    exact hq
theorem b_dial (hL : Ls ≤ 3072) (hK : CK K Ls xs k (i + 6)) (hi : i + 6 ≤ Ls) (hA : AllInv Ls xs (k + 1) S I L R n) : ∃ hz, F_L_law_726 K (some 121) (some 128) (some 197) (some 220) (nI i) (mk S I L R n) = some (1, hz) := by
  obtain ⟨v, S', I', L', R', n', I'', L'', h1, h3, hA', hlo⟩ := k_dial Ls xs (xs (i + 1)) (xs (i + 2)) (xs (i + 3)) k S I L R n hA
  have hs' := hA'.st
  have hs := hA.st
  obtain ⟨hz, hq⟩ := hK _ _ _ _ _ hA'
  have q1 : ∀ c : Nat, c < 6 → aS (mk S I L R n) (some 121) (nI i + nI c) = some (xs (i + c)) := fun c hc => mk_aS hA.1 hL c (by omega)
  have q2 : ∀ c : Nat, c < 6 → aS (mk S' I' L' R' n') (some 121) (nI i + nI c) = some (xs (i + c)) := fun c hc => mk_aS hlo hL c (by omega)
  refine ⟨hz, ?_⟩
  unfold F_L_law_726 F_L_law_2603
  rw [show aS (mk S I L R n) (some 121) (nI i + (1 : Int32)) = _ from q1 1 (by decide), Option.bind_some, show aS (mk S I L R n) (some 121) (nI i + (2 : Int32)) = _ from q1 2 (by decide), Option.bind_some, show aS (mk S I L R n) (some 121) (nI i + (3 : Int32)) = _ from q1 3 (by decide), Option.bind_some, cv_128 hs, h1, b2_some, show aS (mk S' I' L' R' n') (some 121) (nI i + (1 : Int32)) = _ from q2 1 (by decide), Option.bind_some, show aS (mk S' I' L' R' n') (some 121) (nI i + (2 : Int32)) = _ from q2 2 (by decide), Option.bind_some, show aS (mk S' I' L' R' n') (some 121) (nI i + (3 : Int32)) = _ from q2 3 (by decide), Option.bind_some, cv_197 hs', h3, b2_some, if_pos rfl, show nI i + (6 : Int32) = nI (i + 6) from nI_add i 6]
  exact hq
theorem b_pull (hL : Ls ≤ 3072) (hK : CK K Ls xs k (i + 6)) (hi : i + 6 ≤ Ls) (hA : AllInv Ls xs (k + 1) S I L R n) : ∃ hz, F_L_law_775 K (some 121) (some 128) (some 197) (some 220) (nI i) (mk S I L R n) = some (1, hz) := by
  obtain ⟨v, S', I', L', R', n', I'', L'', h1, h3, hA', hlo⟩ := k_pull Ls xs (xs (i + 1)) k S I L R n hA
  have hs' := hA'.st
  have hs := hA.st
  obtain ⟨hz, hq⟩ := hK _ _ _ _ _ hA'
  have q1 : ∀ c : Nat, c < 6 → aS (mk S I L R n) (some 121) (nI i + nI c) = some (xs (i + c)) := fun c hc => mk_aS hA.1 hL c (by omega)
  have q2 : ∀ c : Nat, c < 6 → aS (mk S' I' L' R' n') (some 121) (nI i + nI c) = some (xs (i + c)) := fun c hc => mk_aS hlo hL c (by omega)
  refine ⟨hz, ?_⟩
  unfold F_L_law_775 F_L_law_2603
  rw [show aS (mk S I L R n) (some 121) (nI i + (1 : Int32)) = _ from q1 1 (by decide), Option.bind_some, cv_128 hs, h1, b2_some, show aS (mk S' I' L' R' n') (some 121) (nI i + (1 : Int32)) = _ from q2 1 (by decide), Option.bind_some, cv_197 hs', h3, b2_some, if_pos rfl, show nI i + (6 : Int32) = nI (i + 6) from nI_add i 6]
  exact hq
theorem b_door (hL : Ls ≤ 3072) (hK : CK K Ls xs k (i + 6)) (hi : i + 6 ≤ Ls) (hA : AllInv Ls xs (k + 1) S I L R n) : ∃ hz, F_L_law_800 K (some 121) (some 128) (some 197) (some 220) (nI i) (mk S I L R n) = some (1, hz) := by
  obtain ⟨t, v, S', I', L', R', n', I'', L'', h1, h2, h3, h4, h5, hA', hlo⟩ := k_door Ls xs (xs (i + 1)) k S I L R n hA
  have hs' := hA'.st
  have hs := hA.st
  obtain ⟨hz, hq⟩ := hK _ _ _ _ _ hA'
  have q1 : ∀ c : Nat, c < 6 → aS (mk S I L R n) (some 121) (nI i + nI c) = some (xs (i + c)) := fun c hc => mk_aS hA.1 hL c (by omega)
  have q2 : ∀ c : Nat, c < 6 → aS (mk S' I' L' R' n') (some 121) (nI i + nI c) = some (xs (i + c)) := fun c hc => mk_aS hlo hL c (by omega)
  refine ⟨hz, ?_⟩
  unfold F_L_law_800 F_L_law_853 F_L_law_2603
  rw [show aS (mk S I L R n) (some 121) (nI i + (1 : Int32)) = _ from q1 1 (by decide), Option.bind_some, h1, b2_some, show aS (mk S' I' L' R' n') (some 121) (nI i + (1 : Int32)) = _ from q2 1 (by decide), Option.bind_some, cv_197 hs', h3, b2_some, cv_197 hs', e_thrown hs', b2_some, h4, if_pos rfl, show nI i + (6 : Int32) = nI (i + 6) from nI_add i 6]
  by_cases e : t = 0
  · rw [if_pos e, out_g hs', Option.bind_some, h5, h2 e, lg_self, if_pos rfl]
    exact hq
  · rw [if_neg e]
    exact hq
theorem b_minutes (hL : Ls ≤ 3072) (hK : CK K Ls xs k (i + 6)) (hi : i + 6 ≤ Ls) (hA : AllInv Ls xs (k + 1) S I L R n) : ∃ hz, F_L_law_856 K (some 121) (some 128) (some 197) (some 220) (nI i) (mk S I L R n) = some (1, hz) := by
  obtain ⟨t, v, S', I', L', R', n', I'', L'', h1, h2, h3, h4, h5, hA', hlo⟩ := k_minutes Ls xs (xs (i + 1)) k S I L R n hA
  have hs' := hA'.st
  have hs := hA.st
  obtain ⟨hz, hq⟩ := hK _ _ _ _ _ hA'
  have q1 : ∀ c : Nat, c < 6 → aS (mk S I L R n) (some 121) (nI i + nI c) = some (xs (i + c)) := fun c hc => mk_aS hA.1 hL c (by omega)
  have q2 : ∀ c : Nat, c < 6 → aS (mk S' I' L' R' n') (some 121) (nI i + nI c) = some (xs (i + c)) := fun c hc => mk_aS hlo hL c (by omega)
  refine ⟨hz, ?_⟩
  unfold F_L_law_856 F_L_law_909 F_L_law_2603
  rw [show aS (mk S I L R n) (some 121) (nI i + (1 : Int32)) = _ from q1 1 (by decide), Option.bind_some, h1, b2_some, show aS (mk S' I' L' R' n') (some 121) (nI i + (1 : Int32)) = _ from q2 1 (by decide), Option.bind_some, cv_197 hs', h3, b2_some, cv_197 hs', e_thrown hs', b2_some, h4, if_pos rfl, show nI i + (6 : Int32) = nI (i + 6) from nI_add i 6]
  by_cases e : t = 0
  · rw [if_pos e, out_g hs', Option.bind_some, h5, h2 e, lg_self, if_pos rfl]
    exact hq
  · rw [if_neg e]
    exact hq
theorem b_undo (hL : Ls ≤ 3072) (hK : CK K Ls xs k (i + 6)) (hi : i + 6 ≤ Ls) (hA : AllInv Ls xs (k + 1) S I L R n) : ∃ hz, F_L_law_912 K (some 121) (some 128) (some 197) (some 220) (nI i) (mk S I L R n) = some (1, hz) := by
  obtain ⟨t, v, S', I', L', R', n', I'', L'', h1, h2, h3, h4, h5, hA', hlo⟩ := k_undo Ls xs (xs (i + 1)) k S I L R n hA
  have hs' := hA'.st
  have hs := hA.st
  obtain ⟨hz, hq⟩ := hK _ _ _ _ _ hA'
  have q1 : ∀ c : Nat, c < 6 → aS (mk S I L R n) (some 121) (nI i + nI c) = some (xs (i + c)) := fun c hc => mk_aS hA.1 hL c (by omega)
  have q2 : ∀ c : Nat, c < 6 → aS (mk S' I' L' R' n') (some 121) (nI i + nI c) = some (xs (i + c)) := fun c hc => mk_aS hlo hL c (by omega)
  refine ⟨hz, ?_⟩
  unfold F_L_law_912 F_L_law_965 F_L_law_2603
  rw [show aS (mk S I L R n) (some 121) (nI i + (1 : Int32)) = _ from q1 1 (by decide), Option.bind_some, h1, b2_some, show aS (mk S' I' L' R' n') (some 121) (nI i + (1 : Int32)) = _ from q2 1 (by decide), Option.bind_some, cv_197 hs', h3, b2_some, cv_197 hs', e_thrown hs', b2_some, h4, if_pos rfl, show nI i + (6 : Int32) = nI (i + 6) from nI_add i 6]
  by_cases e : t = 0
  · rw [if_pos e, out_g hs', Option.bind_some, h5, h2 e, lg_self, if_pos rfl]
    exact hq
  · rw [if_neg e]
    exact hq
theorem b_judge (hL : Ls ≤ 3072) (hK : CK K Ls xs k (i + 6)) (hi : i + 6 ≤ Ls) (hA : AllInv Ls xs (k + 1) S I L R n) : ∃ hz, F_L_law_968 K (some 121) (some 128) (some 197) (some 220) (nI i) (mk S I L R n) = some (1, hz) := by
  obtain ⟨t, v, S', I', L', R', n', I'', L'', h1, h2, h3, h4, h5, hA', hlo⟩ := k_judge Ls xs (xs (i + 1)) (xs (i + 2)) k S I L R n hA
  have hs' := hA'.st
  have hs := hA.st
  obtain ⟨hz, hq⟩ := hK _ _ _ _ _ hA'
  have q1 : ∀ c : Nat, c < 6 → aS (mk S I L R n) (some 121) (nI i + nI c) = some (xs (i + c)) := fun c hc => mk_aS hA.1 hL c (by omega)
  have q2 : ∀ c : Nat, c < 6 → aS (mk S' I' L' R' n') (some 121) (nI i + nI c) = some (xs (i + c)) := fun c hc => mk_aS hlo hL c (by omega)
  refine ⟨hz, ?_⟩
  unfold F_L_law_968 F_L_law_1033 F_L_law_2603
  rw [show aS (mk S I L R n) (some 121) (nI i + (1 : Int32)) = _ from q1 1 (by decide), Option.bind_some, show aS (mk S I L R n) (some 121) (nI i + (2 : Int32)) = _ from q1 2 (by decide), Option.bind_some, h1, b2_some, show aS (mk S' I' L' R' n') (some 121) (nI i + (1 : Int32)) = _ from q2 1 (by decide), Option.bind_some, show aS (mk S' I' L' R' n') (some 121) (nI i + (2 : Int32)) = _ from q2 2 (by decide), Option.bind_some, cv_197 hs', h3, b2_some, cv_197 hs', e_thrown hs', b2_some, h4, if_pos rfl, show nI i + (6 : Int32) = nI (i + 6) from nI_add i 6]
  by_cases e : t = 0
  · rw [if_pos e, out_g hs', Option.bind_some, h5, h2 e, lg_self, if_pos rfl]
    exact hq
  · rw [if_neg e]
    exact hq
theorem b_perform (hL : Ls ≤ 3072) (hK : CK K Ls xs k (i + 6)) (hi : i + 6 ≤ Ls) (hA : AllInv Ls xs (k + 1) S I L R n) : ∃ hz, F_L_law_1036 K (some 121) (some 128) (some 197) (some 220) (nI i) (mk S I L R n) = some (1, hz) := by
  obtain ⟨t, v, S', I', L', R', n', I'', L'', h1, h2, h3, h4, h5, hA', hlo⟩ := k_perform Ls xs (xs (i + 1)) k S I L R n hA
  have hs' := hA'.st
  have hs := hA.st
  obtain ⟨hz, hq⟩ := hK _ _ _ _ _ hA'
  have q1 : ∀ c : Nat, c < 6 → aS (mk S I L R n) (some 121) (nI i + nI c) = some (xs (i + c)) := fun c hc => mk_aS hA.1 hL c (by omega)
  have q2 : ∀ c : Nat, c < 6 → aS (mk S' I' L' R' n') (some 121) (nI i + nI c) = some (xs (i + c)) := fun c hc => mk_aS hlo hL c (by omega)
  refine ⟨hz, ?_⟩
  unfold F_L_law_1036 F_L_law_1089 F_L_law_2603
  rw [show aS (mk S I L R n) (some 121) (nI i + (1 : Int32)) = _ from q1 1 (by decide), Option.bind_some, h1, b2_some, show aS (mk S' I' L' R' n') (some 121) (nI i + (1 : Int32)) = _ from q2 1 (by decide), Option.bind_some, cv_197 hs', h3, b2_some, cv_197 hs', e_thrown hs', b2_some, h4, if_pos rfl, show nI i + (6 : Int32) = nI (i + 6) from nI_add i 6]
  by_cases e : t = 0
  · rw [if_pos e, out_g hs', Option.bind_some, h5, h2 e, lg_self, if_pos rfl]
    exact hq
  · rw [if_neg e]
    exact hq
theorem b_spring (hL : Ls ≤ 3072) (hK : CK K Ls xs k (i + 6)) (hi : i + 6 ≤ Ls) (hA : AllInv Ls xs (k + 1) S I L R n) : ∃ hz, F_L_law_1092 K (some 121) (some 128) (some 197) (some 220) (nI i) (mk S I L R n) = some (1, hz) := by
  obtain ⟨t, v, S', I', L', R', n', I'', L'', h1, h2, h3, h4, h5, hA', hlo⟩ := k_spring Ls xs (xs (i + 1)) (xs (i + 2)) k S I L R n hA
  have hs' := hA'.st
  have hs := hA.st
  obtain ⟨hz, hq⟩ := hK _ _ _ _ _ hA'
  have q1 : ∀ c : Nat, c < 6 → aS (mk S I L R n) (some 121) (nI i + nI c) = some (xs (i + c)) := fun c hc => mk_aS hA.1 hL c (by omega)
  have q2 : ∀ c : Nat, c < 6 → aS (mk S' I' L' R' n') (some 121) (nI i + nI c) = some (xs (i + c)) := fun c hc => mk_aS hlo hL c (by omega)
  refine ⟨hz, ?_⟩
  unfold F_L_law_1092 F_L_law_1157 F_L_law_2603
  rw [show aS (mk S I L R n) (some 121) (nI i + (1 : Int32)) = _ from q1 1 (by decide), Option.bind_some, show aS (mk S I L R n) (some 121) (nI i + (2 : Int32)) = _ from q1 2 (by decide), Option.bind_some, h1, b2_some, show aS (mk S' I' L' R' n') (some 121) (nI i + (1 : Int32)) = _ from q2 1 (by decide), Option.bind_some, show aS (mk S' I' L' R' n') (some 121) (nI i + (2 : Int32)) = _ from q2 2 (by decide), Option.bind_some, cv_197 hs', h3, b2_some, cv_197 hs', e_thrown hs', b2_some, h4, if_pos rfl, show nI i + (6 : Int32) = nI (i + 6) from nI_add i 6]
  by_cases e : t = 0
  · rw [if_pos e, out_g hs', Option.bind_some, h5, h2 e, lg_self, if_pos rfl]
    exact hq
  · rw [if_neg e]
    exact hq
theorem b_lost (hL : Ls ≤ 3072) (hK : CK K Ls xs k (i + 6)) (hi : i + 6 ≤ Ls) (hA : AllInv Ls xs (k + 1) S I L R n) : ∃ hz, F_L_law_1160 K (some 121) (some 128) (some 197) (some 220) (nI i) (mk S I L R n) = some (1, hz) := by
  obtain ⟨t, v, S', I', L', R', n', I'', L'', h1, h2, h3, h4, h5, hA', hlo⟩ := k_lost Ls xs (xs (i + 1)) k S I L R n hA
  have hs' := hA'.st
  have hs := hA.st
  obtain ⟨hz, hq⟩ := hK _ _ _ _ _ hA'
  have q1 : ∀ c : Nat, c < 6 → aS (mk S I L R n) (some 121) (nI i + nI c) = some (xs (i + c)) := fun c hc => mk_aS hA.1 hL c (by omega)
  have q2 : ∀ c : Nat, c < 6 → aS (mk S' I' L' R' n') (some 121) (nI i + nI c) = some (xs (i + c)) := fun c hc => mk_aS hlo hL c (by omega)
  refine ⟨hz, ?_⟩
  unfold F_L_law_1160 F_L_law_1213 F_L_law_2603
  rw [show aS (mk S I L R n) (some 121) (nI i + (1 : Int32)) = _ from q1 1 (by decide), Option.bind_some, h1, b2_some, show aS (mk S' I' L' R' n') (some 121) (nI i + (1 : Int32)) = _ from q2 1 (by decide), Option.bind_some, cv_197 hs', h3, b2_some, cv_197 hs', e_thrown hs', b2_some, h4, if_pos rfl, show nI i + (6 : Int32) = nI (i + 6) from nI_add i 6]
  by_cases e : t = 0
  · rw [if_pos e, out_g hs', Option.bind_some, h5, h2 e, lg_self, if_pos rfl]
    exact hq
  · rw [if_neg e]
    exact hq
theorem b_firstLost (hL : Ls ≤ 3072) (hK : CK K Ls xs k (i + 6)) (hi : i + 6 ≤ Ls) (hA : AllInv Ls xs (k + 1) S I L R n) : ∃ hz, F_L_law_1216 K (some 121) (some 128) (some 197) (some 220) (nI i) (mk S I L R n) = some (1, hz) := by
  obtain ⟨v, S', I', L', R', n', I'', L'', h1, h3, hA', hlo⟩ := k_firstLost Ls xs  k S I L R n hA
  have hs' := hA'.st
  have hs := hA.st
  obtain ⟨hz, hq⟩ := hK _ _ _ _ _ hA'
  refine ⟨hz, ?_⟩
  unfold F_L_law_1216 F_L_law_2603
  rw [cv_128 hs, h1, b2_some, cv_197 hs', h3, b2_some, if_pos rfl, show nI i + (6 : Int32) = nI (i + 6) from nI_add i 6]
  exact hq
theorem b_together (hL : Ls ≤ 3072) (hK : CK K Ls xs k (i + 6)) (hi : i + 6 ≤ Ls) (hA : AllInv Ls xs (k + 1) S I L R n) : ∃ hz, F_L_law_1229 K (some 121) (some 128) (some 197) (some 220) (nI i) (mk S I L R n) = some (1, hz) := by
  obtain ⟨t, v, S', I', L', R', n', I'', L'', h1, h2, h3, h4, h5, hA', hlo⟩ := k_together Ls xs (xs (i + 1)) (xs (i + 2)) k S I L R n hA
  have hs' := hA'.st
  have hs := hA.st
  obtain ⟨hz, hq⟩ := hK _ _ _ _ _ hA'
  have q1 : ∀ c : Nat, c < 6 → aS (mk S I L R n) (some 121) (nI i + nI c) = some (xs (i + c)) := fun c hc => mk_aS hA.1 hL c (by omega)
  have q2 : ∀ c : Nat, c < 6 → aS (mk S' I' L' R' n') (some 121) (nI i + nI c) = some (xs (i + c)) := fun c hc => mk_aS hlo hL c (by omega)
  refine ⟨hz, ?_⟩
  unfold F_L_law_1229 F_L_law_1294 F_L_law_2603
  rw [show aS (mk S I L R n) (some 121) (nI i + (1 : Int32)) = _ from q1 1 (by decide), Option.bind_some, show aS (mk S I L R n) (some 121) (nI i + (2 : Int32)) = _ from q1 2 (by decide), Option.bind_some, h1, b2_some, show aS (mk S' I' L' R' n') (some 121) (nI i + (1 : Int32)) = _ from q2 1 (by decide), Option.bind_some, show aS (mk S' I' L' R' n') (some 121) (nI i + (2 : Int32)) = _ from q2 2 (by decide), Option.bind_some, cv_197 hs', h3, b2_some, cv_197 hs', e_thrown hs', b2_some, h4, if_pos rfl, show nI i + (6 : Int32) = nI (i + 6) from nI_add i 6]
  by_cases e : t = 0
  · rw [if_pos e, out_g hs', Option.bind_some, h5, h2 e, lg_self, if_pos rfl]
    exact hq
  · rw [if_neg e]
    exact hq
theorem b_weddings (hL : Ls ≤ 3072) (hK : CK K Ls xs k (i + 6)) (hi : i + 6 ≤ Ls) (hA : AllInv Ls xs (k + 1) S I L R n) : ∃ hz, F_L_law_1297 K (some 121) (some 128) (some 197) (some 220) (nI i) (mk S I L R n) = some (1, hz) := by
  obtain ⟨t, v, S', I', L', R', n', I'', L'', h1, h2, h3, h4, h5, hA', hlo⟩ := k_weddings Ls xs (xs (i + 1)) k S I L R n hA
  have hs' := hA'.st
  have hs := hA.st
  obtain ⟨hz, hq⟩ := hK _ _ _ _ _ hA'
  have q1 : ∀ c : Nat, c < 6 → aS (mk S I L R n) (some 121) (nI i + nI c) = some (xs (i + c)) := fun c hc => mk_aS hA.1 hL c (by omega)
  have q2 : ∀ c : Nat, c < 6 → aS (mk S' I' L' R' n') (some 121) (nI i + nI c) = some (xs (i + c)) := fun c hc => mk_aS hlo hL c (by omega)
  refine ⟨hz, ?_⟩
  unfold F_L_law_1297 F_L_law_1350 F_L_law_2603
  rw [show aS (mk S I L R n) (some 121) (nI i + (1 : Int32)) = _ from q1 1 (by decide), Option.bind_some, h1, b2_some, show aS (mk S' I' L' R' n') (some 121) (nI i + (1 : Int32)) = _ from q2 1 (by decide), Option.bind_some, cv_197 hs', h3, b2_some, cv_197 hs', e_thrown hs', b2_some, h4, if_pos rfl, show nI i + (6 : Int32) = nI (i + 6) from nI_add i 6]
  by_cases e : t = 0
  · rw [if_pos e, out_g hs', Option.bind_some, h5, h2 e, lg_self, if_pos rfl]
    exact hq
  · rw [if_neg e]
    exact hq
theorem b_busiest (hL : Ls ≤ 3072) (hK : CK K Ls xs k (i + 6)) (hi : i + 6 ≤ Ls) (hA : AllInv Ls xs (k + 1) S I L R n) : ∃ hz, F_L_law_1353 K (some 121) (some 128) (some 197) (some 220) (nI i) (mk S I L R n) = some (1, hz) := by
  obtain ⟨t, v, S', I', L', R', n', I'', L'', h1, h2, h3, h4, h5, hA', hlo⟩ := k_busiest Ls xs (xs (i + 1)) k S I L R n hA
  have hs' := hA'.st
  have hs := hA.st
  obtain ⟨hz, hq⟩ := hK _ _ _ _ _ hA'
  have q1 : ∀ c : Nat, c < 6 → aS (mk S I L R n) (some 121) (nI i + nI c) = some (xs (i + c)) := fun c hc => mk_aS hA.1 hL c (by omega)
  have q2 : ∀ c : Nat, c < 6 → aS (mk S' I' L' R' n') (some 121) (nI i + nI c) = some (xs (i + c)) := fun c hc => mk_aS hlo hL c (by omega)
  refine ⟨hz, ?_⟩
  unfold F_L_law_1353 F_L_law_1406 F_L_law_2603
  rw [show aS (mk S I L R n) (some 121) (nI i + (1 : Int32)) = _ from q1 1 (by decide), Option.bind_some, h1, b2_some, show aS (mk S' I' L' R' n') (some 121) (nI i + (1 : Int32)) = _ from q2 1 (by decide), Option.bind_some, cv_197 hs', h3, b2_some, cv_197 hs', e_thrown hs', b2_some, h4, if_pos rfl, show nI i + (6 : Int32) = nI (i + 6) from nI_add i 6]
  by_cases e : t = 0
  · rw [if_pos e, out_g hs', Option.bind_some, h5, h2 e, lg_self, if_pos rfl]
    exact hq
  · rw [if_neg e]
    exact hq
theorem b_hog (hL : Ls ≤ 3072) (hK : CK K Ls xs k (i + 6)) (hi : i + 6 ≤ Ls) (hA : AllInv Ls xs (k + 1) S I L R n) : ∃ hz, F_L_law_1409 K (some 121) (some 128) (some 197) (some 220) (nI i) (mk S I L R n) = some (1, hz) := by
  obtain ⟨t, v, S', I', L', R', n', I'', L'', h1, h2, h3, h4, h5, hA', hlo⟩ := k_hog Ls xs (xs (i + 1)) k S I L R n hA
  have hs' := hA'.st
  have hs := hA.st
  obtain ⟨hz, hq⟩ := hK _ _ _ _ _ hA'
  have q1 : ∀ c : Nat, c < 6 → aS (mk S I L R n) (some 121) (nI i + nI c) = some (xs (i + c)) := fun c hc => mk_aS hA.1 hL c (by omega)
  have q2 : ∀ c : Nat, c < 6 → aS (mk S' I' L' R' n') (some 121) (nI i + nI c) = some (xs (i + c)) := fun c hc => mk_aS hlo hL c (by omega)
  refine ⟨hz, ?_⟩
  unfold F_L_law_1409 F_L_law_1462 F_L_law_2603
  rw [show aS (mk S I L R n) (some 121) (nI i + (1 : Int32)) = _ from q1 1 (by decide), Option.bind_some, h1, b2_some, show aS (mk S' I' L' R' n') (some 121) (nI i + (1 : Int32)) = _ from q2 1 (by decide), Option.bind_some, cv_197 hs', h3, b2_some, cv_197 hs', e_thrown hs', b2_some, h4, if_pos rfl, show nI i + (6 : Int32) = nI (i + 6) from nI_add i 6]
  by_cases e : t = 0
  · rw [if_pos e, out_g hs', Option.bind_some, h5, h2 e, lg_self, if_pos rfl]
    exact hq
  · rw [if_neg e]
    exact hq
theorem b_best (hL : Ls ≤ 3072) (hK : CK K Ls xs k (i + 6)) (hi : i + 6 ≤ Ls) (hA : AllInv Ls xs (k + 1) S I L R n) : ∃ hz, F_L_law_1465 K (some 121) (some 128) (some 197) (some 220) (nI i) (mk S I L R n) = some (1, hz) := by
  obtain ⟨t, v, S', I', L', R', n', I'', L'', h1, h2, h3, h4, h5, hA', hlo⟩ := k_best Ls xs (xs (i + 1)) k S I L R n hA
  have hs' := hA'.st
  have hs := hA.st
  obtain ⟨hz, hq⟩ := hK _ _ _ _ _ hA'
  have q1 : ∀ c : Nat, c < 6 → aS (mk S I L R n) (some 121) (nI i + nI c) = some (xs (i + c)) := fun c hc => mk_aS hA.1 hL c (by omega)
  have q2 : ∀ c : Nat, c < 6 → aS (mk S' I' L' R' n') (some 121) (nI i + nI c) = some (xs (i + c)) := fun c hc => mk_aS hlo hL c (by omega)
  refine ⟨hz, ?_⟩
  unfold F_L_law_1465 F_L_law_1518 F_L_law_2603
  rw [show aS (mk S I L R n) (some 121) (nI i + (1 : Int32)) = _ from q1 1 (by decide), Option.bind_some, h1, b2_some, show aS (mk S' I' L' R' n') (some 121) (nI i + (1 : Int32)) = _ from q2 1 (by decide), Option.bind_some, cv_197 hs', h3, b2_some, cv_197 hs', e_thrown hs', b2_some, h4, if_pos rfl, show nI i + (6 : Int32) = nI (i + 6) from nI_add i 6]
  by_cases e : t = 0
  · rw [if_pos e, out_g hs', Option.bind_some, h5, h2 e, lg_self, if_pos rfl]
    exact hq
  · rw [if_neg e]
    exact hq
theorem b_bestBy (hL : Ls ≤ 3072) (hK : CK K Ls xs k (i + 6)) (hi : i + 6 ≤ Ls) (hA : AllInv Ls xs (k + 1) S I L R n) : ∃ hz, F_L_law_1521 K (some 121) (some 128) (some 197) (some 220) (nI i) (mk S I L R n) = some (1, hz) := by
  obtain ⟨t, v, S', I', L', R', n', I'', L'', h1, h2, h3, h4, h5, hA', hlo⟩ := k_bestBy Ls xs (xs (i + 1)) k S I L R n hA
  have hs' := hA'.st
  have hs := hA.st
  obtain ⟨hz, hq⟩ := hK _ _ _ _ _ hA'
  have q1 : ∀ c : Nat, c < 6 → aS (mk S I L R n) (some 121) (nI i + nI c) = some (xs (i + c)) := fun c hc => mk_aS hA.1 hL c (by omega)
  have q2 : ∀ c : Nat, c < 6 → aS (mk S' I' L' R' n') (some 121) (nI i + nI c) = some (xs (i + c)) := fun c hc => mk_aS hlo hL c (by omega)
  refine ⟨hz, ?_⟩
  unfold F_L_law_1521 F_L_law_1574 F_L_law_2603
  rw [show aS (mk S I L R n) (some 121) (nI i + (1 : Int32)) = _ from q1 1 (by decide), Option.bind_some, h1, b2_some, show aS (mk S' I' L' R' n') (some 121) (nI i + (1 : Int32)) = _ from q2 1 (by decide), Option.bind_some, cv_197 hs', h3, b2_some, cv_197 hs', e_thrown hs', b2_some, h4, if_pos rfl, show nI i + (6 : Int32) = nI (i + 6) from nI_add i 6]
  by_cases e : t = 0
  · rw [if_pos e, out_g hs', Option.bind_some, h5, h2 e, lg_self, if_pos rfl]
    exact hq
  · rw [if_neg e]
    exact hq
theorem b_enough (hL : Ls ≤ 3072) (hK : CK K Ls xs k (i + 6)) (hi : i + 6 ≤ Ls) (hA : AllInv Ls xs (k + 1) S I L R n) : ∃ hz, F_L_law_1577 K (some 121) (some 128) (some 197) (some 220) (nI i) (mk S I L R n) = some (1, hz) := by
  obtain ⟨v, S', I', L', R', n', I'', L'', h1, h3, hA', hlo⟩ := k_enough Ls xs  k S I L R n hA
  have hs' := hA'.st
  have hs := hA.st
  obtain ⟨hz, hq⟩ := hK _ _ _ _ _ hA'
  refine ⟨hz, ?_⟩
  unfold F_L_law_1577 F_L_law_2603
  rw [cv_128 hs, h1, b2_some, cv_197 hs', h3, b2_some, if_pos rfl, show nI i + (6 : Int32) = nI (i + 6) from nI_add i 6]
  exact hq
theorem b_atOnce (hL : Ls ≤ 3072) (hK : CK K Ls xs k (i + 6)) (hi : i + 6 ≤ Ls) (hA : AllInv Ls xs (k + 1) S I L R n) : ∃ hz, F_L_law_1590 K (some 121) (some 128) (some 197) (some 220) (nI i) (mk S I L R n) = some (1, hz) := by
  obtain ⟨t, v, S', I', L', R', n', I'', L'', h1, h2, h3, h4, h5, hA', hlo⟩ := k_atOnce Ls xs (xs (i + 1)) k S I L R n hA
  have hs' := hA'.st
  have hs := hA.st
  obtain ⟨hz, hq⟩ := hK _ _ _ _ _ hA'
  have q1 : ∀ c : Nat, c < 6 → aS (mk S I L R n) (some 121) (nI i + nI c) = some (xs (i + c)) := fun c hc => mk_aS hA.1 hL c (by omega)
  have q2 : ∀ c : Nat, c < 6 → aS (mk S' I' L' R' n') (some 121) (nI i + nI c) = some (xs (i + c)) := fun c hc => mk_aS hlo hL c (by omega)
  refine ⟨hz, ?_⟩
  unfold F_L_law_1590 F_L_law_1644 F_L_law_1650 F_L_law_2603
  rw [show aS (mk S I L R n) (some 121) (nI i + (1 : Int32)) = _ from q1 1 (by decide), Option.bind_some, h1, b2_some, show aS (mk S' I' L' R' n') (some 121) (nI i + (1 : Int32)) = _ from q2 1 (by decide), Option.bind_some, cv_197 hs', h3, b2_some, cv_197 hs', e_thrown hs', b2_some, h4, if_pos rfl, show nI i + (6 : Int32) = nI (i + 6) from nI_add i 6]
  by_cases e : t = 0
  · rw [if_pos e, out_g hs', Option.bind_some, h5, h2 e]
    rcases at_b h3 with z | z
    · subst z
      rw [if_pos rfl, show lg_cmp (Int32.toInt64 0) 0 = 0 from lg_self 0, if_pos rfl]
      exact hq
    · subst z
      rw [if_neg (by decide), show lg_cmp (Int32.toInt64 1) 1 = 0 from lg_self 1, if_pos rfl]
      exact hq
  · rw [if_neg e]
    exact hq
theorem b_crossed (hL : Ls ≤ 3072) (hK : CK K Ls xs k (i + 6)) (hi : i + 6 ≤ Ls) (hA : AllInv Ls xs (k + 1) S I L R n) : ∃ hz, F_L_law_1653 K (some 121) (some 128) (some 197) (some 220) (nI i) (mk S I L R n) = some (1, hz) := by
  obtain ⟨t, v, S', I', L', R', n', I'', L'', h1, h2, h3, h4, h5, hA', hlo⟩ := k_crossed Ls xs (xs (i + 1)) (xs (i + 2)) k S I L R n hA
  have hs' := hA'.st
  have hs := hA.st
  obtain ⟨hz, hq⟩ := hK _ _ _ _ _ hA'
  have q1 : ∀ c : Nat, c < 6 → aS (mk S I L R n) (some 121) (nI i + nI c) = some (xs (i + c)) := fun c hc => mk_aS hA.1 hL c (by omega)
  have q2 : ∀ c : Nat, c < 6 → aS (mk S' I' L' R' n') (some 121) (nI i + nI c) = some (xs (i + c)) := fun c hc => mk_aS hlo hL c (by omega)
  refine ⟨hz, ?_⟩
  unfold F_L_law_1653 F_L_law_1718 F_L_law_2603
  rw [show aS (mk S I L R n) (some 121) (nI i + (1 : Int32)) = _ from q1 1 (by decide), Option.bind_some, show aS (mk S I L R n) (some 121) (nI i + (2 : Int32)) = _ from q1 2 (by decide), Option.bind_some, h1, b2_some, show aS (mk S' I' L' R' n') (some 121) (nI i + (1 : Int32)) = _ from q2 1 (by decide), Option.bind_some, show aS (mk S' I' L' R' n') (some 121) (nI i + (2 : Int32)) = _ from q2 2 (by decide), Option.bind_some, cv_197 hs', h3, b2_some, cv_197 hs', e_thrown hs', b2_some, h4, if_pos rfl, show nI i + (6 : Int32) = nI (i + 6) from nI_add i 6]
  by_cases e : t = 0
  · rw [if_pos e, out_g hs', Option.bind_some, h5, h2 e, lg_self, if_pos rfl]
    exact hq
  · rw [if_neg e]
    exact hq
theorem b_crossings (hL : Ls ≤ 3072) (hK : CK K Ls xs k (i + 6)) (hi : i + 6 ≤ Ls) (hA : AllInv Ls xs (k + 1) S I L R n) : ∃ hz, F_L_law_1721 K (some 121) (some 128) (some 197) (some 220) (nI i) (mk S I L R n) = some (1, hz) := by
  obtain ⟨t, v, S', I', L', R', n', I'', L'', h1, h2, h3, h4, h5, hA', hlo⟩ := k_crossings Ls xs (xs (i + 1)) k S I L R n hA
  have hs' := hA'.st
  have hs := hA.st
  obtain ⟨hz, hq⟩ := hK _ _ _ _ _ hA'
  have q1 : ∀ c : Nat, c < 6 → aS (mk S I L R n) (some 121) (nI i + nI c) = some (xs (i + c)) := fun c hc => mk_aS hA.1 hL c (by omega)
  have q2 : ∀ c : Nat, c < 6 → aS (mk S' I' L' R' n') (some 121) (nI i + nI c) = some (xs (i + c)) := fun c hc => mk_aS hlo hL c (by omega)
  refine ⟨hz, ?_⟩
  unfold F_L_law_1721 F_L_law_1774 F_L_law_2603
  rw [show aS (mk S I L R n) (some 121) (nI i + (1 : Int32)) = _ from q1 1 (by decide), Option.bind_some, h1, b2_some, show aS (mk S' I' L' R' n') (some 121) (nI i + (1 : Int32)) = _ from q2 1 (by decide), Option.bind_some, cv_197 hs', h3, b2_some, cv_197 hs', e_thrown hs', b2_some, h4, if_pos rfl, show nI i + (6 : Int32) = nI (i + 6) from nI_add i 6]
  by_cases e : t = 0
  · rw [if_pos e, out_g hs', Option.bind_some, h5, h2 e, lg_self, if_pos rfl]
    exact hq
  · rw [if_neg e]
    exact hq
theorem b_stable (hL : Ls ≤ 3072) (hK : CK K Ls xs k (i + 6)) (hi : i + 6 ≤ Ls) (hA : AllInv Ls xs (k + 1) S I L R n) : ∃ hz, F_L_law_1777 K (some 121) (some 128) (some 197) (some 220) (nI i) (mk S I L R n) = some (1, hz) := by
  obtain ⟨v, S', I', L', R', n', I'', L'', h1, h3, hA', hlo⟩ := k_stable Ls xs  k S I L R n hA
  have hs' := hA'.st
  have hs := hA.st
  obtain ⟨hz, hq⟩ := hK _ _ _ _ _ hA'
  refine ⟨hz, ?_⟩
  unfold F_L_law_1777 F_L_law_2603
  rw [cv_128 hs, h1, b2_some, cv_197 hs', h3, b2_some, if_pos rfl, show nI i + (6 : Int32) = nI (i + 6) from nI_add i 6]
  exact hq
theorem b_partner (hL : Ls ≤ 3072) (hK : CK K Ls xs k (i + 6)) (hi : i + 6 ≤ Ls) (hA : AllInv Ls xs (k + 1) S I L R n) : ∃ hz, F_L_law_1790 K (some 121) (some 128) (some 197) (some 220) (nI i) (mk S I L R n) = some (1, hz) := by
  obtain ⟨t, v, S', I', L', R', n', I'', L'', h1, h2, h3, h4, h5, hA', hlo⟩ := k_partner Ls xs (xs (i + 1)) k S I L R n hA
  have hs' := hA'.st
  have hs := hA.st
  obtain ⟨hz, hq⟩ := hK _ _ _ _ _ hA'
  have q1 : ∀ c : Nat, c < 6 → aS (mk S I L R n) (some 121) (nI i + nI c) = some (xs (i + c)) := fun c hc => mk_aS hA.1 hL c (by omega)
  have q2 : ∀ c : Nat, c < 6 → aS (mk S' I' L' R' n') (some 121) (nI i + nI c) = some (xs (i + c)) := fun c hc => mk_aS hlo hL c (by omega)
  refine ⟨hz, ?_⟩
  unfold F_L_law_1790 F_L_law_1843 F_L_law_2603
  rw [show aS (mk S I L R n) (some 121) (nI i + (1 : Int32)) = _ from q1 1 (by decide), Option.bind_some, h1, b2_some, show aS (mk S' I' L' R' n') (some 121) (nI i + (1 : Int32)) = _ from q2 1 (by decide), Option.bind_some, cv_197 hs', h3, b2_some, cv_197 hs', e_thrown hs', b2_some, h4, if_pos rfl, show nI i + (6 : Int32) = nI (i + 6) from nI_add i 6]
  by_cases e : t = 0
  · rw [if_pos e, out_g hs', Option.bind_some, h5, h2 e, lg_self, if_pos rfl]
    exact hq
  · rw [if_neg e]
    exact hq
theorem b_leave (hL : Ls ≤ 3072) (hK : CK K Ls xs k (i + 6)) (hi : i + 6 ≤ Ls) (hA : AllInv Ls xs (k + 1) S I L R n) : ∃ hz, F_L_law_1846 K (some 121) (some 128) (some 197) (some 220) (nI i) (mk S I L R n) = some (1, hz) := by
  obtain ⟨v, S', I', L', R', n', I'', L'', h1, h3, hA', hlo⟩ := k_leave Ls xs  k S I L R n hA
  have hs' := hA'.st
  have hs := hA.st
  obtain ⟨hz, hq⟩ := hK _ _ _ _ _ hA'
  refine ⟨hz, ?_⟩
  unfold F_L_law_1846 F_L_law_2603
  rw [cv_128 hs, h1, b2_some, cv_197 hs', h3, b2_some, if_pos rfl, show nI i + (6 : Int32) = nI (i + 6) from nI_add i 6]
  exact hq
theorem b_darlings (hL : Ls ≤ 3072) (hK : CK K Ls xs k (i + 6)) (hi : i + 6 ≤ Ls) (hA : AllInv Ls xs (k + 1) S I L R n) : ∃ hz, F_L_law_1859 K (some 121) (some 128) (some 197) (some 220) (nI i) (mk S I L R n) = some (1, hz) := by
  obtain ⟨v, S', I', L', R', n', I'', L'', h1, h3, hA', hlo⟩ := k_darlings Ls xs  k S I L R n hA
  have hs' := hA'.st
  have hs := hA.st
  obtain ⟨hz, hq⟩ := hK _ _ _ _ _ hA'
  refine ⟨hz, ?_⟩
  unfold F_L_law_1859 F_L_law_2603
  rw [cv_128 hs, h1, b2_some, cv_197 hs', h3, b2_some, if_pos rfl, show nI i + (6 : Int32) = nI (i + 6) from nI_add i 6]
  exact hq
theorem b_happiest (hL : Ls ≤ 3072) (hK : CK K Ls xs k (i + 6)) (hi : i + 6 ≤ Ls) (hA : AllInv Ls xs (k + 1) S I L R n) : ∃ hz, F_L_law_1872 K (some 121) (some 128) (some 197) (some 220) (nI i) (mk S I L R n) = some (1, hz) := by
  obtain ⟨t, v, S', I', L', R', n', I'', L'', h1, h2, h3, h4, h5, hA', hlo⟩ := k_happiest Ls xs (xs (i + 1)) k S I L R n hA
  have hs' := hA'.st
  have hs := hA.st
  obtain ⟨hz, hq⟩ := hK _ _ _ _ _ hA'
  have q1 : ∀ c : Nat, c < 6 → aS (mk S I L R n) (some 121) (nI i + nI c) = some (xs (i + c)) := fun c hc => mk_aS hA.1 hL c (by omega)
  have q2 : ∀ c : Nat, c < 6 → aS (mk S' I' L' R' n') (some 121) (nI i + nI c) = some (xs (i + c)) := fun c hc => mk_aS hlo hL c (by omega)
  refine ⟨hz, ?_⟩
  unfold F_L_law_1872 F_L_law_1925 F_L_law_2603
  rw [show aS (mk S I L R n) (some 121) (nI i + (1 : Int32)) = _ from q1 1 (by decide), Option.bind_some, h1, b2_some, show aS (mk S' I' L' R' n') (some 121) (nI i + (1 : Int32)) = _ from q2 1 (by decide), Option.bind_some, cv_197 hs', h3, b2_some, cv_197 hs', e_thrown hs', b2_some, h4, if_pos rfl, show nI i + (6 : Int32) = nI (i + 6) from nI_add i 6]
  by_cases e : t = 0
  · rw [if_pos e, out_g hs', Option.bind_some, h5, h2 e, lg_self, if_pos rfl]
    exact hq
  · rw [if_neg e]
    exact hq
theorem b_loss (hL : Ls ≤ 3072) (hK : CK K Ls xs k (i + 6)) (hi : i + 6 ≤ Ls) (hA : AllInv Ls xs (k + 1) S I L R n) : ∃ hz, F_L_law_1928 K (some 121) (some 128) (some 197) (some 220) (nI i) (mk S I L R n) = some (1, hz) := by
  obtain ⟨t, v, S', I', L', R', n', I'', L'', h1, h2, h3, h4, h5, hA', hlo⟩ := k_loss Ls xs (xs (i + 1)) (xs (i + 2)) (xs (i + 3)) (xs (i + 4)) k S I L R n hA
  have hs' := hA'.st
  have hs := hA.st
  obtain ⟨hz, hq⟩ := hK _ _ _ _ _ hA'
  have q1 : ∀ c : Nat, c < 6 → aS (mk S I L R n) (some 121) (nI i + nI c) = some (xs (i + c)) := fun c hc => mk_aS hA.1 hL c (by omega)
  have q2 : ∀ c : Nat, c < 6 → aS (mk S' I' L' R' n') (some 121) (nI i + nI c) = some (xs (i + c)) := fun c hc => mk_aS hlo hL c (by omega)
  refine ⟨hz, ?_⟩
  unfold F_L_law_1928 F_L_law_2016 F_L_law_2603
  rw [show aS (mk S I L R n) (some 121) (nI i + (1 : Int32)) = _ from q1 1 (by decide), Option.bind_some, show aS (mk S I L R n) (some 121) (nI i + (2 : Int32)) = _ from q1 2 (by decide), Option.bind_some, show aS (mk S I L R n) (some 121) (nI i + (3 : Int32)) = _ from q1 3 (by decide), Option.bind_some, show aS (mk S I L R n) (some 121) (nI i + (4 : Int32)) = _ from q1 4 (by decide), Option.bind_some, h1, b2_some, show aS (mk S' I' L' R' n') (some 121) (nI i + (1 : Int32)) = _ from q2 1 (by decide), Option.bind_some, show aS (mk S' I' L' R' n') (some 121) (nI i + (2 : Int32)) = _ from q2 2 (by decide), Option.bind_some, show aS (mk S' I' L' R' n') (some 121) (nI i + (3 : Int32)) = _ from q2 3 (by decide), Option.bind_some, show aS (mk S' I' L' R' n') (some 121) (nI i + (4 : Int32)) = _ from q2 4 (by decide), Option.bind_some, cv_197 hs', h3, b2_some, cv_197 hs', e_thrown hs', b2_some, h4, if_pos rfl, show nI i + (6 : Int32) = nI (i + 6) from nI_add i 6]
  by_cases e : t = 0
  · rw [if_pos e, out_g hs', Option.bind_some, h5, h2 e, lg_self, if_pos rfl]
    exact hq
  · rw [if_neg e]
    exact hq
theorem b_fewest (hL : Ls ≤ 3072) (hK : CK K Ls xs k (i + 6)) (hi : i + 6 ≤ Ls) (hA : AllInv Ls xs (k + 1) S I L R n) : ∃ hz, F_L_law_2019 K (some 121) (some 128) (some 197) (some 220) (nI i) (mk S I L R n) = some (1, hz) := by
  obtain ⟨t, v, S', I', L', R', n', I'', L'', h1, h2, h3, h4, h5, hA', hlo⟩ := k_fewest Ls xs (xs (i + 1)) (xs (i + 2)) (xs (i + 3)) k S I L R n hA
  have hs' := hA'.st
  have hs := hA.st
  obtain ⟨hz, hq⟩ := hK _ _ _ _ _ hA'
  have q1 : ∀ c : Nat, c < 6 → aS (mk S I L R n) (some 121) (nI i + nI c) = some (xs (i + c)) := fun c hc => mk_aS hA.1 hL c (by omega)
  have q2 : ∀ c : Nat, c < 6 → aS (mk S' I' L' R' n') (some 121) (nI i + nI c) = some (xs (i + c)) := fun c hc => mk_aS hlo hL c (by omega)
  refine ⟨hz, ?_⟩
  unfold F_L_law_2019 F_L_law_2096 F_L_law_2603
  rw [show aS (mk S I L R n) (some 121) (nI i + (1 : Int32)) = _ from q1 1 (by decide), Option.bind_some, show aS (mk S I L R n) (some 121) (nI i + (2 : Int32)) = _ from q1 2 (by decide), Option.bind_some, show aS (mk S I L R n) (some 121) (nI i + (3 : Int32)) = _ from q1 3 (by decide), Option.bind_some, h1, b2_some, show aS (mk S' I' L' R' n') (some 121) (nI i + (1 : Int32)) = _ from q2 1 (by decide), Option.bind_some, show aS (mk S' I' L' R' n') (some 121) (nI i + (2 : Int32)) = _ from q2 2 (by decide), Option.bind_some, show aS (mk S' I' L' R' n') (some 121) (nI i + (3 : Int32)) = _ from q2 3 (by decide), Option.bind_some, cv_197 hs', h3, b2_some, cv_197 hs', e_thrown hs', b2_some, h4, if_pos rfl, show nI i + (6 : Int32) = nI (i + 6) from nI_add i 6]
  by_cases e : t = 0
  · rw [if_pos e, out_g hs', Option.bind_some, h5, h2 e, lg_self, if_pos rfl]
    exact hq
  · rw [if_neg e]
    exact hq
theorem b_rules (hL : Ls ≤ 3072) (hK : CK K Ls xs k (i + 6)) (hi : i + 6 ≤ Ls) (hA : AllInv Ls xs (k + 1) S I L R n) : ∃ hz, F_L_law_2099 K (some 121) (some 128) (some 197) (some 220) (nI i) (mk S I L R n) = some (1, hz) := by
  obtain ⟨t, v, S', I', L', R', n', I'', L'', h1, h2, h3, h4, h5, hA', hlo⟩ := k_rules Ls xs (xs (i + 1)) k S I L R n hA
  have hs' := hA'.st
  have hs := hA.st
  obtain ⟨hz, hq⟩ := hK _ _ _ _ _ hA'
  have q1 : ∀ c : Nat, c < 6 → aS (mk S I L R n) (some 121) (nI i + nI c) = some (xs (i + c)) := fun c hc => mk_aS hA.1 hL c (by omega)
  have q2 : ∀ c : Nat, c < 6 → aS (mk S' I' L' R' n') (some 121) (nI i + nI c) = some (xs (i + c)) := fun c hc => mk_aS hlo hL c (by omega)
  refine ⟨hz, ?_⟩
  unfold F_L_law_2099 F_L_law_2152 F_L_law_2603
  rw [show aS (mk S I L R n) (some 121) (nI i + (1 : Int32)) = _ from q1 1 (by decide), Option.bind_some, h1, b2_some, show aS (mk S' I' L' R' n') (some 121) (nI i + (1 : Int32)) = _ from q2 1 (by decide), Option.bind_some, cv_197 hs', h3, b2_some, cv_197 hs', e_thrown hs', b2_some, h4, if_pos rfl, show nI i + (6 : Int32) = nI (i + 6) from nI_add i 6]
  by_cases e : t = 0
  · rw [if_pos e, out_g hs', Option.bind_some, h5, h2 e, lg_self, if_pos rfl]
    exact hq
  · rw [if_neg e]
    exact hq
theorem b_rule (hL : Ls ≤ 3072) (hK : CK K Ls xs k (i + 6)) (hi : i + 6 ≤ Ls) (hA : AllInv Ls xs (k + 1) S I L R n) : ∃ hz, F_L_law_2155 K (some 121) (some 128) (some 197) (some 220) (nI i) (mk S I L R n) = some (1, hz) := by
  obtain ⟨t, v, S', I', L', R', n', I'', L'', h1, h2, h3, h4, h5, hA', hlo⟩ := k_rule Ls xs (xs (i + 1)) (xs (i + 2)) k S I L R n hA
  have hs' := hA'.st
  have hs := hA.st
  obtain ⟨hz, hq⟩ := hK _ _ _ _ _ hA'
  have q1 : ∀ c : Nat, c < 6 → aS (mk S I L R n) (some 121) (nI i + nI c) = some (xs (i + c)) := fun c hc => mk_aS hA.1 hL c (by omega)
  have q2 : ∀ c : Nat, c < 6 → aS (mk S' I' L' R' n') (some 121) (nI i + nI c) = some (xs (i + c)) := fun c hc => mk_aS hlo hL c (by omega)
  refine ⟨hz, ?_⟩
  unfold F_L_law_2155 F_L_law_2220 F_L_law_2603
  rw [show aS (mk S I L R n) (some 121) (nI i + (1 : Int32)) = _ from q1 1 (by decide), Option.bind_some, show aS (mk S I L R n) (some 121) (nI i + (2 : Int32)) = _ from q1 2 (by decide), Option.bind_some, h1, b2_some, show aS (mk S' I' L' R' n') (some 121) (nI i + (1 : Int32)) = _ from q2 1 (by decide), Option.bind_some, show aS (mk S' I' L' R' n') (some 121) (nI i + (2 : Int32)) = _ from q2 2 (by decide), Option.bind_some, cv_197 hs', h3, b2_some, cv_197 hs', e_thrown hs', b2_some, h4, if_pos rfl, show nI i + (6 : Int32) = nI (i + 6) from nI_add i 6]
  by_cases e : t = 0
  · rw [if_pos e, out_g hs', Option.bind_some, h5, h2 e, lg_self, if_pos rfl]
    exact hq
  · rw [if_neg e]
    exact hq
theorem b_ask (hL : Ls ≤ 3072) (hK : CK K Ls xs k (i + 6)) (hi : i + 6 ≤ Ls) (hA : AllInv Ls xs (k + 1) S I L R n) : ∃ hz, F_L_law_2223 K (some 121) (some 128) (some 197) (some 220) (nI i) (mk S I L R n) = some (1, hz) := by
  obtain ⟨t, v, S', I', L', R', n', I'', L'', h1, h2, h3, h4, h5, hA', hlo⟩ := k_ask Ls xs (xs (i + 1)) k S I L R n hA
  have hs' := hA'.st
  have hs := hA.st
  obtain ⟨hz, hq⟩ := hK _ _ _ _ _ hA'
  have q1 : ∀ c : Nat, c < 6 → aS (mk S I L R n) (some 121) (nI i + nI c) = some (xs (i + c)) := fun c hc => mk_aS hA.1 hL c (by omega)
  have q2 : ∀ c : Nat, c < 6 → aS (mk S' I' L' R' n') (some 121) (nI i + nI c) = some (xs (i + c)) := fun c hc => mk_aS hlo hL c (by omega)
  refine ⟨hz, ?_⟩
  unfold F_L_law_2223 F_L_law_2276 F_L_law_2603
  rw [show aS (mk S I L R n) (some 121) (nI i + (1 : Int32)) = _ from q1 1 (by decide), Option.bind_some, h1, b2_some, show aS (mk S' I' L' R' n') (some 121) (nI i + (1 : Int32)) = _ from q2 1 (by decide), Option.bind_some, cv_197 hs', h3, b2_some, cv_197 hs', e_thrown hs', b2_some, h4, if_pos rfl, show nI i + (6 : Int32) = nI (i + 6) from nI_add i 6]
  by_cases e : t = 0
  · rw [if_pos e, out_g hs', Option.bind_some, h5, h2 e, lg_self, if_pos rfl]
    exact hq
  · rw [if_neg e]
    exact hq
theorem b_tray (hL : Ls ≤ 3072) (hK : CK K Ls xs k (i + 6)) (hi : i + 6 ≤ Ls) (hA : AllInv Ls xs (k + 1) S I L R n) : ∃ hz, F_L_law_2279 K (some 121) (some 128) (some 197) (some 220) (nI i) (mk S I L R n) = some (1, hz) := by
  obtain ⟨t, S', I', L', R', n', I'', L'', h1, h3, h4, hA', hlo⟩ := k_tray Ls xs (xs (i + 1)) (xs (i + 2)) (xs (i + 3)) k S I L R n hA
  have hs' := hA'.st
  have hs := hA.st
  obtain ⟨hz, hq⟩ := hK _ _ _ _ _ hA'
  have q1 : ∀ c : Nat, c < 6 → aS (mk S I L R n) (some 121) (nI i + nI c) = some (xs (i + c)) := fun c hc => mk_aS hA.1 hL c (by omega)
  have q2 : ∀ c : Nat, c < 6 → aS (mk S' I' L' R' n') (some 121) (nI i + nI c) = some (xs (i + c)) := fun c hc => mk_aS hlo hL c (by omega)
  refine ⟨hz, ?_⟩
  unfold F_L_law_2279 F_L_law_2603
  rw [show aS (mk S I L R n) (some 121) (nI i + (1 : Int32)) = _ from q1 1 (by decide), Option.bind_some, show aS (mk S I L R n) (some 121) (nI i + (2 : Int32)) = _ from q1 2 (by decide), Option.bind_some, show aS (mk S I L R n) (some 121) (nI i + (3 : Int32)) = _ from q1 3 (by decide), Option.bind_some, h1, b2_some, show aS (mk S' I' L' R' n') (some 121) (nI i + (1 : Int32)) = _ from q2 1 (by decide), Option.bind_some, show aS (mk S' I' L' R' n') (some 121) (nI i + (2 : Int32)) = _ from q2 2 (by decide), Option.bind_some, show aS (mk S' I' L' R' n') (some 121) (nI i + (3 : Int32)) = _ from q2 3 (by decide), Option.bind_some, cv_197 hs', h3, Option.bind_some, cv_197 hs', e_thrown hs', b2_some, h4, if_pos rfl, show nI i + (6 : Int32) = nI (i + 6) from nI_add i 6]
  exact hq
theorem b_write (hL : Ls ≤ 3072) (hK : CK K Ls xs k (i + 6)) (hi : i + 6 ≤ Ls) (hA : AllInv Ls xs (k + 1) S I L R n) : ∃ hz, F_L_law_2339 K (some 121) (some 128) (some 197) (some 220) (nI i) (mk S I L R n) = some (1, hz) := by
  obtain ⟨t, v, S', I', L', R', n', I'', L'', h1, h2, h3, h4, h5, hA', hlo⟩ := k_write Ls xs (xs (i + 1)) (xs (i + 2)) ((((xs (i + 3)).toInt64) <<< ((32 : Int32).toInt64 &&& 63)) ||| (((xs (i + 4)).toInt64) &&& (4294967295 : Int64))) k S I L R n hA
  have hs' := hA'.st
  have hs := hA.st
  obtain ⟨hz, hq⟩ := hK _ _ _ _ _ hA'
  have q1 : ∀ c : Nat, c < 6 → aS (mk S I L R n) (some 121) (nI i + nI c) = some (xs (i + c)) := fun c hc => mk_aS hA.1 hL c (by omega)
  have q2 : ∀ c : Nat, c < 6 → aS (mk S' I' L' R' n') (some 121) (nI i + nI c) = some (xs (i + c)) := fun c hc => mk_aS hlo hL c (by omega)
  refine ⟨hz, ?_⟩
  unfold F_L_law_2339 F_L_law_2447 F_L_law_2603
  rw [show aS (mk S I L R n) (some 121) (nI i + (1 : Int32)) = _ from q1 1 (by decide), Option.bind_some, show aS (mk S I L R n) (some 121) (nI i + (2 : Int32)) = _ from q1 2 (by decide), Option.bind_some, show aS (mk S I L R n) (some 121) (nI i + (3 : Int32)) = _ from q1 3 (by decide), Option.bind_some, show aS (mk S I L R n) (some 121) (nI i + (4 : Int32)) = _ from q1 4 (by decide), Option.bind_some, h1, b2_some, show aS (mk S' I' L' R' n') (some 121) (nI i + (1 : Int32)) = _ from q2 1 (by decide), Option.bind_some, show aS (mk S' I' L' R' n') (some 121) (nI i + (2 : Int32)) = _ from q2 2 (by decide), Option.bind_some, show aS (mk S' I' L' R' n') (some 121) (nI i + (3 : Int32)) = _ from q2 3 (by decide), Option.bind_some, show aS (mk S' I' L' R' n') (some 121) (nI i + (4 : Int32)) = _ from q2 4 (by decide), Option.bind_some, cv_197 hs', h3, b2_some, cv_197 hs', e_thrown hs', b2_some, h4, if_pos rfl, show nI i + (6 : Int32) = nI (i + 6) from nI_add i 6]
  by_cases e : t = 0
  · rw [if_pos e, out_g hs', Option.bind_some, h5, h2 e, lg_self, if_pos rfl]
    exact hq
  · rw [if_neg e]
    exact hq
theorem b_copy (hL : Ls ≤ 3072) (hK : CK K Ls xs k (i + 6)) (hi : i + 6 ≤ Ls) (hA : AllInv Ls xs (k + 1) S I L R n) : ∃ hz, F_L_law_2450 K (some 121) (some 128) (some 197) (some 220) (nI i) (mk S I L R n) = some (1, hz) := by
  obtain ⟨t, v, S', I', L', R', n', I'', L'', h1, h2, h3, h4, h5, hA', hlo⟩ := k_copy Ls xs (xs (i + 1)) k S I L R n hA
  have hs' := hA'.st
  have hs := hA.st
  obtain ⟨hz, hq⟩ := hK _ _ _ _ _ hA'
  have q1 : ∀ c : Nat, c < 6 → aS (mk S I L R n) (some 121) (nI i + nI c) = some (xs (i + c)) := fun c hc => mk_aS hA.1 hL c (by omega)
  have q2 : ∀ c : Nat, c < 6 → aS (mk S' I' L' R' n') (some 121) (nI i + nI c) = some (xs (i + c)) := fun c hc => mk_aS hlo hL c (by omega)
  refine ⟨hz, ?_⟩
  unfold F_L_law_2450 F_L_law_2503 F_L_law_2603
  rw [show aS (mk S I L R n) (some 121) (nI i + (1 : Int32)) = _ from q1 1 (by decide), Option.bind_some, h1, b2_some, show aS (mk S' I' L' R' n') (some 121) (nI i + (1 : Int32)) = _ from q2 1 (by decide), Option.bind_some, cv_197 hs', h3, b2_some, cv_197 hs', e_thrown hs', b2_some, h4, if_pos rfl, show nI i + (6 : Int32) = nI (i + 6) from nI_add i 6]
  by_cases e : t = 0
  · rw [if_pos e, out_g hs', Option.bind_some, h5, h2 e, lg_self, if_pos rfl]
    exact hq
  · rw [if_neg e]
    exact hq
theorem b_image (hL : Ls ≤ 3072) (hK : CK K Ls xs k (i + 6)) (hi : i + 6 ≤ Ls) (hA : AllInv Ls xs (k + 1) S I L R n) : ∃ hz, F_L_law_2506 K (some 121) (some 128) (some 197) (some 220) (nI i) (mk S I L R n) = some (1, hz) := by
  obtain ⟨t, S', I', L', R', n', I'', L'', h1, h3, h4, hA', hlo⟩ := k_image Ls xs (xs (i + 1)) k S I L R n hA
  have hs' := hA'.st
  have hs := hA.st
  obtain ⟨hz, hq⟩ := hK _ _ _ _ _ hA'
  have q1 : ∀ c : Nat, c < 6 → aS (mk S I L R n) (some 121) (nI i + nI c) = some (xs (i + c)) := fun c hc => mk_aS hA.1 hL c (by omega)
  have q2 : ∀ c : Nat, c < 6 → aS (mk S' I' L' R' n') (some 121) (nI i + nI c) = some (xs (i + c)) := fun c hc => mk_aS hlo hL c (by omega)
  refine ⟨hz, ?_⟩
  unfold F_L_law_2506 F_L_law_2603
  rw [show aS (mk S I L R n) (some 121) (nI i + (1 : Int32)) = _ from q1 1 (by decide), Option.bind_some, h1, b2_some, show aS (mk S' I' L' R' n') (some 121) (nI i + (1 : Int32)) = _ from q2 1 (by decide), Option.bind_some, cv_197 hs', h3, Option.bind_some, cv_197 hs', e_thrown hs', b2_some, h4, if_pos rfl, show nI i + (6 : Int32) = nI (i + 6) from nI_add i 6]
  exact hq
theorem b_restore (hL : Ls ≤ 3072) (hK : CK K Ls xs k (i + 6)) (hi : i + 6 ≤ Ls) (hA : AllInv Ls xs (k + 1) S I L R n) : ∃ hz, F_L_law_2542 K (some 121) (some 128) (some 197) (some 220) (nI i) (mk S I L R n) = some (1, hz) := by
  obtain ⟨t, S', I', L', R', n', I'', L'', h1, h3, h4, hA', hlo⟩ := k_restore Ls xs (xs (i + 1)) k S I L R n hA
  have hs' := hA'.st
  have hs := hA.st
  obtain ⟨hz, hq⟩ := hK _ _ _ _ _ hA'
  have q1 : ∀ c : Nat, c < 6 → aS (mk S I L R n) (some 121) (nI i + nI c) = some (xs (i + c)) := fun c hc => mk_aS hA.1 hL c (by omega)
  have q2 : ∀ c : Nat, c < 6 → aS (mk S' I' L' R' n') (some 121) (nI i + nI c) = some (xs (i + c)) := fun c hc => mk_aS hlo hL c (by omega)
  refine ⟨hz, ?_⟩
  unfold F_L_law_2542 F_L_law_2603
  rw [show aS (mk S I L R n) (some 121) (nI i + (1 : Int32)) = _ from q1 1 (by decide), Option.bind_some, h1, b2_some, show aS (mk S' I' L' R' n') (some 121) (nI i + (1 : Int32)) = _ from q2 1 (by decide), Option.bind_some, cv_197 hs', h3, Option.bind_some, cv_197 hs', e_thrown hs', b2_some, h4, if_pos rfl, show nI i + (6 : Int32) = nI (i + 6) from nI_add i 6]
  exact hq
theorem b_count (hL : Ls ≤ 3072) (hK : CK K Ls xs k (i + 6)) (hi : i + 6 ≤ Ls) (hA : AllInv Ls xs (k + 1) S I L R n) : ∃ hz, F_L_law_2578 K (some 121) (some 128) (some 197) (some 220) (nI i) (mk S I L R n) = some (1, hz) := by
  obtain ⟨v, S', I', L', R', n', I'', L'', h1, h3, hA', hlo⟩ := k_count Ls xs (xs (i + 1)) k S I L R n hA
  have hs' := hA'.st
  have hs := hA.st
  obtain ⟨hz, hq⟩ := hK _ _ _ _ _ hA'
  have q1 : ∀ c : Nat, c < 6 → aS (mk S I L R n) (some 121) (nI i + nI c) = some (xs (i + c)) := fun c hc => mk_aS hA.1 hL c (by omega)
  have q2 : ∀ c : Nat, c < 6 → aS (mk S' I' L' R' n') (some 121) (nI i + nI c) = some (xs (i + c)) := fun c hc => mk_aS hlo hL c (by omega)
  refine ⟨hz, ?_⟩
  unfold F_L_law_2578 F_L_law_2603
  rw [show aS (mk S I L R n) (some 121) (nI i + (1 : Int32)) = _ from q1 1 (by decide), Option.bind_some, cv_128 hs, h1, b2_some, show aS (mk S' I' L' R' n') (some 121) (nI i + (1 : Int32)) = _ from q2 1 (by decide), Option.bind_some, cv_197 hs', h3, b2_some, if_pos rfl, show nI i + (6 : Int32) = nI (i + 6) from nI_add i 6]
  exact hq
end LW1
