/-! the reference reads a law: words, numbers -/
theorem ws_same : wsOf 42 = wsOf 11 ∧ wsOf 43 = wsOf 12 ∧ wsOf 44 = wsOf 13 ∧ wsOf 37 = wsOf 6 ∧ wsOf 40 = wsOf 14 ∧ wsOf 36 = wsOf 5 ∧ wsOf 45 = wsOf 15 ∧ wsOf 46 = wsOf 16 ∧ wsOf 48 = wsOf 10 ∧ wsOf 49 = wsOf 17 ∧ wsOf 50 = wsOf 18 ∧ wsOf 34 = wsOf 3 ∧ wsOf 35 = wsOf 4 ∧ wsOf 38 = wsOf 7 ∧ wsOf 39 = wsOf 8 ∧ wsOf 41 = wsOf 9 ∧ wsOf 47 = wsOf 19 := by decide +kernel
section EM
variable {Ls : Nat} {xs : Nat → Int32} {S : mkS} {L : mkL} {R : mkR} {n : Nat × Nat} {B : BT} {w d : Nat}
theorem e_word0 (hs : St S R) {t : TKN} {I : mkI} (hl : Low Ls xs S I R) (hT : TpR B.1 B.2 I) (ht : TkR B.1 t I) (h0 : I 197 12 = 0) (hg : TKg B.1 B.2 t) {a : Nat} (ha : a < 51) : F_X12_isWord (some 197) (some a) (mk S I L R n) = some (b2i (wB B.1 t (wsOf a)), mk S I L R n) := by
  obtain ⟨w1, w2, w3⟩ := ws_all a ha
  obtain ⟨r1, -, -, r4, -⟩ := rtk_all hg
  have hN := hT.1
  have he := hg.1.2.1
  have hse := hg.1.2.2.1
  have hcv : ∀ {α : Type} {q : Option α}, cV (mk S I L R n) (some a) 13 q = q := fun {_ _} => mk_cV (c := 13) (by rw [(hl.1 a ha).1])
  have off : ∀ g i, F_X12_isWord_39 (g + 1) (some 197) (some a) 0 i (mk S I L R n) = some (0, mk S I L R n) := fun g i => by
    simp only [F_X12_isWord_39, F_X12_isWord_82]
    rw [if_pos trivial, rZ_0]
    rfl
  have key : t.2.1 - t.1 = (wsOf a).length → ∀ (r g i : Nat), i + r = (wsOf a).length → r + 1 < g → F_X12_isWord_39 g (some 197) (some a) 1 (nI i) (mk S I L R n) = some (b2i ((List.range' i r).all fun i => decide (B.1 (t.1 + i) = (wsOf a).getD i 0)), mk S I L R n) := by
    intro hlen r
    induction r with
    | zero =>
      intro g i hi hg'
      obtain ⟨g, rfl⟩ : ∃ y, g = y + 1 := ⟨g - 1, by omega⟩
      simp only [F_X12_isWord_39, F_X12_isWord_82]
      rw [if_neg (by decide), hcv, j_len hl ha, b2_some, if_pos (nI_le (by omega) (by omega)), rZ_1]
      rfl
    | succ r ih =>
      intro g i hi hg'
      obtain ⟨g, rfl⟩ : ∃ y, g = y + 2 := ⟨g - 2, by omega⟩
      obtain ⟨c1, c2⟩ := w3 i (by omega)
      have hb := (hT.2.2 (t.1 + i) (by omega)).1
      have ih' := ih (g + 1) (i + 1) (by omega) (by omega)
      have off' := off g (nI (i + 1))
      rw [List.range'_succ, List.all_cons, show g + 2 = (g + 1) + 1 from rfl]
      rw [show F_X12_isWord_39 (g + 1 + 1) (some 197) (some a) 1 (nI i) (mk S I L R n) = (if (1 : Int32) = 0 then (F_X12_isWord_82 1 (mk S I L R n)) else (mm_b2 (cV (mk S I L R n) (some a) 13 (F_J0_length_8abf5 (some a) (mk S I L R n))) fun v45 h45 => if v45 ≤ nI i then (F_X12_isWord_82 1 h45) else ((gR h45 (some 197) 12 5).bind fun v52 => (gI h45 (some 197) 12 9).bind fun v56 => (aI h45 v52 0 (v56 + nI i)).bind fun v61 => mm_b2 (cV h45 (some a) 13 (F_J0_charAt_5068e (some a) (nI i) h45)) fun v64 h64 => if v61 = v64 then (F_X12_isWord_75 (F_X12_isWord_39 (g + 1)) (some 197) (some a) (nI i) (1 : Int32) h64) else (F_X12_isWord_75 (F_X12_isWord_39 (g + 1)) (some 197) (some a) (nI i) (0 : Int32) h64)))) from rfl]
      unfold F_X12_isWord_75
      rw [if_neg (by decide), hcv, j_len hl ha, b2_some, if_neg (nI_ge (by omega) (by omega)), gr_197_5 hs, Option.bind_some, gi_197_9 hs, Option.bind_some, ht.2.1, nI_add, ab_202 hs hT (by omega), Option.bind_some, hcv, j_char hl ha (by omega), b2_some, c1, nI_1, ih', off']
      by_cases e : B.1 (t.1 + i) = (wsOf a).getD i 0
      · rw [if_pos (by rw [e]), decide_eq_true e, Bool.true_and]
      · rw [if_neg (fun z => e ((nI_eq (by omega) (by omega)).mp z)), decide_eq_false e, Bool.false_and]
        rfl
  obtain ⟨g0, eg0⟩ : ∃ g, mm_N = g + 1 := ⟨mm_N - 1, by unfold mm_N; omega⟩
  have off0 := off g0 0
  rw [← eg0] at off0
  unfold F_X12_isWord F_X12_isWord_35 F_X12_isWord_36 wB
  rw [gi_197_12 hs, Option.bind_some, h0, if_pos rfl, gi_197_10 hs, Option.bind_some, ht.2.2.1, off0]
  by_cases e : t.2.2 = 2
  · rw [if_pos (show nI (rtk B.1 t) = 1 by rw [r4.mpr e]; rfl), gi_197_8 hs, Option.bind_some, gi_197_9 hs, Option.bind_some, ht.1, ht.2.1, hcv, j_len hl ha, b2_some, nI_sub hse, decide_eq_true e, Bool.true_and]
    by_cases e2 : t.2.1 - t.1 = (wsOf a).length
    · rw [if_pos (by rw [e2, w1]), decide_eq_true e2, Bool.true_and, List.range_eq_range']
      exact key e2 _ mm_N 0 (by omega) (by show (wsOf a).length + 1 < 1000000; omega)
    · rw [if_neg (fun z => e2 (by have := (nI_eq (by omega) (by omega)).mp z; omega)), decide_eq_false e2, Bool.false_and]
      rfl
  · rw [if_neg (show ¬ nI (rtk B.1 t) = 1 from fun z => e (r4.mp ((nI_eq (b := 1) (by omega) (by omega)).mp z))), decide_eq_false e, Bool.false_and]
    rfl
theorem e_word (hs : St S R) {t : TKN} {l : List Nat} {I : mkI} (h : PsR (Ls, xs, S, R) B w d t l I) (hg : TKg B.1 B.2 t) {a : Nat} (ha : a < 51) : F_X12_isWord (some 197) (some a) (mk S I L R n) = some (b2i (wB B.1 t (wsOf a)), mk S I L R n) := e_word0 hs h.1 h.2.1 h.2.2.1 h.2.2.2.1 hg ha
theorem e_took (hs : St S R) {t : TKN} {l : List Nat} {I : mkI} (h : PsR (Ls, xs, S, R) B w d t l I) (hg : TKg B.1 B.2 t) {a : Nat} (ha : a < 51) : ∃ I', F_X12_took (some 197) (some a) (mk S I L R n) = some (b2i (wB B.1 t (wsOf a)), mk S I' L R n) ∧ PsR (Ls, xs, S, R) B w d (if wB B.1 t (wsOf a) = true then nx B t else t) l I' ∧ kM I I' ∧ (wB B.1 t (wsOf a) = false → I' = I) := by
  unfold F_X12_took F_X12_took_14
  rw [cv_197 hs, e_word hs h hg ha, b2_some, cv_197 hs, rZ_b]
  cases e : wB B.1 t (wsOf a) with
  | false =>
    rw [if_pos (show b2i false = 0 from rfl)]
    exact ⟨I, rfl, by rw [if_neg Bool.false_ne_true]; exact h, kM.rf, fun _ => rfl⟩
  | true =>
    obtain ⟨I', q1, q2, q3⟩ := e_adv (L := L) (n := n) hs h hg
    rw [if_neg (show ¬ b2i true = 0 by decide), q1, Option.bind_some, rZ_b]
    exact ⟨I', rfl, by rw [if_pos rfl]; exact q2, q3, fun z => by cases z⟩
end EM
