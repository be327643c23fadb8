/-! the reference reads a law: atoms, terms -/
def kMB (I I' : mkI) : Prop := (∀ x, x ≠ 197 → I' x = I x) ∧ ∀ j, ¬ (8 ≤ j ∧ j ≤ 13) → I' 197 j = I 197 j
theorem kM.b {I I' : mkI} (h : kM I I') : kMB I I' := ⟨h.1, fun j q => h.2 j (by omega)⟩
theorem kMB.e {w : Nat} {I I' : mkI} (h : kMB I I') : kE w I I' := ⟨fun x a _ => h.1 x a, fun j a _ => h.2 j a, fun j _ _ => by rw [h.1 _ (by decide)]⟩
section EN
variable {Ls : Nat} {xs : Nat → Int32} {S : mkS} {L : mkL} {R : mkR} {n : Nat × Nat} {B : BT} {w d : Nat}
theorem e_number0 (hs : St S R) {t : TKN} {I : mkI} (hT : TpR B.1 B.2 I) (ht : TkR B.1 t I) (h0 : I 197 12 = 0) (hg : TKg B.1 B.2 t) {lo hi : Nat} (hhi : hi < 100000) (hlo : lo < 100000) : ∃ I' v, F_X12_number (some 197) (nI lo) (nI hi) (mk S I L R n) = some (v, mk S I' L R n) ∧ (if t.2.2 = 3 ∧ lo ≤ nmV B.1 t ∧ nmV B.1 t ≤ hi then v = nI (nmV B.1 t) ∧ TkR B.1 (nx B t) I' ∧ kM I I' else v = nI lo ∧ FlR (rf t (if t.2.2 = 3 then 3 else 2)) I') ∧ kMB I I' := by
  obtain ⟨r1, -, -, -, r5, -⟩ := rtk_all hg
  have bad : ∀ k : Nat, 1 ≤ k ∧ k ≤ 4 → ∃ I', F_X12_blames (some 197) (nI k) (mk S I L R n) = some (mk S I' L R n) ∧ F_X12_number_36 (some 197) (nI lo) (mk S I' L R n) = some (nI lo, mk S I' L R n) ∧ FlR (rf t k) I' ∧ kMB I I' := fun k hk => by
    obtain ⟨I', q1, q2, q3, q4⟩ := e_blames0 (L := L) (n := n) hs ht h0 hg hk
    refine ⟨I', q1, ?_, q2, q3, fun j hj => q4 j (by omega) (by omega)⟩
    unfold F_X12_number_36 F_X12_number_52 F_X12_number_64
    rw [gi_197_11 hs, Option.bind_some, gi_197_12 hs, Option.bind_some, if_neg q2.ne, Option.bind_some, if_neg q2.ne]
  unfold F_X12_number
  rw [gi_197_10 hs, Option.bind_some, ht.2.2.1]
  by_cases e : t.2.2 = 3
  · have hv := nmV_lt hg e
    have wi : F_X12_within (nI (nmV B.1 t)).toInt64 (nI lo).toInt64 (nI hi).toInt64 (mk S I L R n) = some (b2i (wI (nI (nmV B.1 t)) (nI lo) (nI hi)), mk S I L R n) := e_in _ _ _ _
    rw [if_pos (show nI (rtk B.1 t) = 2 by rw [r5.mpr e]; rfl), gi_197_11 hs, Option.bind_some, ht.2.2.2 e, wi, b2_some, if_pos e]
    by_cases e2 : lo ≤ nmV B.1 t ∧ nmV B.1 t ≤ hi
    · have : wI (nI (nmV B.1 t)) (nI lo) (nI hi) = true := (wI_iff (by omega) (by omega)).mpr ⟨_, e2.1, e2.2, rfl⟩
      obtain ⟨I', q1, q2, q3⟩ := e_readsOn (L := L) (n := n) hs hT hg.1.2.1 ht.1
      rw [this, if_neg (show ¬ b2i true = 0 by decide)]
      unfold F_X12_number_36 F_X12_number_52 F_X12_number_64
      rw [gi_197_11 hs, Option.bind_some, gi_197_12 hs, Option.bind_some, h0, if_pos rfl, cv_197 hs, q1, Option.bind_some, gi_197_12 hs, Option.bind_some, q3.2 12 (by omega), h0, if_pos rfl, ht.2.2.2 e]
      exact ⟨I', _, rfl, by rw [if_pos ⟨e, e2⟩]; exact ⟨rfl, q2, q3⟩, q3.b⟩
    · have : wI (nI (nmV B.1 t)) (nI lo) (nI hi) = false := by
        cases hh : wI (nI (nmV B.1 t)) (nI lo) (nI hi) with
        | false => rfl
        | true =>
          obtain ⟨j, j1, j2, j3⟩ := (wI_iff (by omega) (by omega)).mp hh
          have := (nI_eq (by omega) (by omega)).mp j3
          exact absurd ⟨by omega, by omega⟩ e2
      obtain ⟨I', q1, q2, q3, q4⟩ := bad 3 (by omega)
      rw [this, if_pos (show b2i false = 0 from rfl), cv_197 hs, show F_X12_blames (some 197) 3 (mk S I L R n) = _ from q1, Option.bind_some, q2]
      exact ⟨I', _, rfl, by rw [if_neg (fun z => e2 z.2)]; exact ⟨rfl, q3⟩, q4⟩
  · obtain ⟨I', q1, q2, q3, q4⟩ := bad 2 (by omega)
    rw [if_neg (show ¬ nI (rtk B.1 t) = 2 from fun z => e (r5.mp ((nI_eq (b := 2) (by omega) (by omega)).mp z))), cv_197 hs, show F_X12_blames (some 197) 2 (mk S I L R n) = _ from q1, Option.bind_some, q2, if_neg e]
    exact ⟨I', _, rfl, by rw [if_neg (fun z => e z.1)]; exact ⟨rfl, q3⟩, q4⟩
theorem e_lawWord (hs : St S R) (hw : w ≤ 2) {t : TKN} {l : List Nat} {I : mkI} (h : PsR (Ls, xs, S, R) B w d t l I) (hg : TKg B.1 B.2 t) : ∃ I' v, F_X12_lawWord (some 197) (mk S I L R n) = some (v, mk S I' L R n) ∧ (match vrB B.1 w t with
  | some k => v = nI k ∧ PsR (Ls, xs, S, R) B w d (nx B t) l I'
  | none => v = -1 ∧ I' = I) ∧ kM I I' := by
  have W := fun {a : Nat} (ha : a < 51) => e_took (L := L) (n := n) hs h hg ha
  obtain ⟨s42, s43, s44, s37, s40, s36, s45, s46, -⟩ := ws_same
  have got : ∀ (a b k : Nat), a < 51 → wsOf a = wsOf b → wB B.1 t (wsOf b) = true → ∃ I', F_X12_took (some 197) (some a) (mk S I L R n) = some (1, mk S I' L R n) ∧ PsR (Ls, xs, S, R) B w d (nx B t) l I' ∧ kM I I' := fun a b k ha hab hb => by
    obtain ⟨I', q1, q2, q3, -⟩ := W ha
    rw [hab, hb] at q1 q2
    rw [if_pos rfl] at q2
    exact ⟨I', q1, q2, q3⟩
  have not : ∀ (a b : Nat), a < 51 → wsOf a = wsOf b → wB B.1 t (wsOf b) = false → F_X12_took (some 197) (some a) (mk S I L R n) = some (0, mk S I L R n) := fun a b ha hab hb => by
    obtain ⟨I', q1, q2, q3, q4⟩ := W ha
    rw [hab, hb] at q1 q4
    rw [q4 rfl] at q1
    exact q1
  have n1 : ¬ (1 : Int32) = 0 := by decide
  have n0 : (0 : Int32) = 0 := rfl
  unfold F_X12_lawWord F_X12_lawWord_35 F_X12_lawWord_117 vrB
  rw [gi_197_17 hs, Option.bind_some, h.2.2.2.2.2.1]
  by_cases e1 : w = 1
  · rw [if_pos (show nI (3 + w) = 4 by rw [e1]; rfl), if_pos e1, cv_197 hs]
    cases b11 : wB B.1 t (wsOf 11) with
    | true =>
      obtain ⟨I', q1, q2, q3⟩ := got 42 11 0 (by decide) s42 b11
      rw [q1, b2_some, if_neg n1]
      exact ⟨I', _, rfl, ⟨rfl, q2⟩, q3⟩
    | false =>
      rw [not 42 11 (by decide) s42 b11, b2_some, if_pos n0, cv_197 hs]
      cases b12 : wB B.1 t (wsOf 12) with
      | true =>
        obtain ⟨I', q1, q2, q3⟩ := got 43 12 0 (by decide) s43 b12
        rw [q1, b2_some, if_neg n1]
        exact ⟨I', _, rfl, ⟨rfl, q2⟩, q3⟩
      | false =>
        rw [not 43 12 (by decide) s43 b12, b2_some, if_pos n0]
        exact ⟨I, _, rfl, ⟨rfl, rfl⟩, kM.rf⟩
  · rw [if_neg (show ¬ nI (3 + w) = 4 from fun z => e1 (by have := (nI_eq (b := 4) (by omega) (by omega)).mp z; omega)), if_neg e1, cv_197 hs]
    cases b13 : wB B.1 t (wsOf 13) with
    | true =>
      obtain ⟨I', q1, q2, q3⟩ := got 44 13 0 (by decide) s44 b13
      rw [q1, b2_some, if_neg n1]
      exact ⟨I', _, rfl, ⟨rfl, q2⟩, q3⟩
    | false =>
      rw [not 44 13 (by decide) s44 b13, b2_some, if_pos n0, cv_197 hs]
      cases b6 : wB B.1 t (wsOf 6) with
      | true =>
        obtain ⟨I', q1, q2, q3⟩ := got 37 6 0 (by decide) s37 b6
        rw [q1, b2_some, if_neg n1]
        exact ⟨I', _, rfl, ⟨rfl, q2⟩, q3⟩
      | false =>
        rw [not 37 6 (by decide) s37 b6, b2_some, if_pos n0, cv_197 hs]
        cases b14 : wB B.1 t (wsOf 14) with
        | true =>
          obtain ⟨I', q1, q2, q3⟩ := got 40 14 0 (by decide) s40 b14
          rw [q1, b2_some, if_neg n1]
          exact ⟨I', _, rfl, ⟨rfl, q2⟩, q3⟩
        | false =>
          rw [not 40 14 (by decide) s40 b14, b2_some, if_pos n0, cv_197 hs]
          cases b5 : wB B.1 t (wsOf 5) with
          | true =>
            obtain ⟨I', q1, q2, q3⟩ := got 36 5 0 (by decide) s36 b5
            rw [q1, b2_some, if_neg n1]
            exact ⟨I', _, rfl, ⟨rfl, q2⟩, q3⟩
          | false =>
            rw [not 36 5 (by decide) s36 b5, b2_some, if_pos n0, gi_197_17 hs, Option.bind_some, h.2.2.2.2.2.1]
            by_cases e2 : w = 2
            · rw [if_neg (show ¬ nI (3 + w) = 3 from fun z => by have := (nI_eq (b := 3) (by omega) (by omega)).mp z; omega), if_pos e2, cv_197 hs]
              cases b15 : wB B.1 t (wsOf 15) with
              | true =>
                obtain ⟨I', q1, q2, q3⟩ := got 45 15 0 (by decide) s45 b15
                rw [q1, b2_some, if_neg n1]
                exact ⟨I', _, rfl, ⟨rfl, q2⟩, q3⟩
              | false =>
                rw [not 45 15 (by decide) s45 b15, b2_some, if_pos n0, cv_197 hs]
                cases b16 : wB B.1 t (wsOf 16) with
                | true =>
                  obtain ⟨I', q1, q2, q3⟩ := got 46 16 0 (by decide) s46 b16
                  rw [q1, b2_some, if_neg n1]
                  exact ⟨I', _, rfl, ⟨rfl, q2⟩, q3⟩
                | false =>
                  rw [not 46 16 (by decide) s46 b16, b2_some, if_pos n0]
                  exact ⟨I, _, rfl, ⟨rfl, rfl⟩, kM.rf⟩
            · rw [if_pos (show nI (3 + w) = 3 by rw [show w = 0 by omega]; rfl), if_neg e2]
              exact ⟨I, _, rfl, ⟨rfl, rfl⟩, kM.rf⟩
theorem e_goesIn (hs : St S R) {t : TKN} {l : List Nat} {I : mkI} (h : PsR (Ls, xs, S, R) B w d t l I) (hg : TKg B.1 B.2 t) (hd : d ≤ 6) : ∃ I', F_X12_goesIn (some 197) (mk S I L R n) = some (mk S I' L R n) ∧ (if d < 6 then PsR (Ls, xs, S, R) B w (d + 1) (nx B t) l I' else FlR (rf t 4) I') ∧ kE w I I' := by
  unfold F_X12_goesIn F_X12_goesIn_14 F_X12_goesIn_35
  rw [gi_197_16 hs, Option.bind_some, h.2.2.2.2.1]
  by_cases e : d < 6
  · obtain ⟨I1, hI1⟩ : ∃ I1, I1 = up2 I 197 16 (nI (d + 1)) := ⟨_, rfl⟩
    have k1 : kE w I I1 := ⟨fun x a _ => by rw [hI1, up2_ne _ _ _ a], fun j _ b => by rw [hI1, up2_row, up1_ne _ _ b], fun j _ _ => by rw [hI1, up2_ne _ _ _ (by decide)]⟩
    obtain ⟨h1, h2, h3, h4, h5, h6, h7, h8, h9⟩ := h
    have m1 : ∀ j, j ≠ 16 → I1 197 j = I 197 j := fun j hj => by rw [hI1, up2_row, up1_ne _ _ hj]
    have x1 : ∀ x, x ≠ 197 → I1 x = I x := fun x hx => by rw [hI1, up2_ne _ _ _ hx]
    have hP : PsR (Ls, xs, S, R) B w (d + 1) t l I1 := ⟨k1.low h1, by unfold TpR; rw [m1 7 (by decide), x1 _ (by decide)]; exact h2, by unfold TkR; rw [m1 8 (by decide), m1 9 (by decide), m1 10 (by decide), m1 11 (by decide)]; exact h3, by rw [m1 12 (by decide)]; exact h4, by rw [hI1, up2_self], by rw [m1 17 (by decide)]; exact h6, by rw [m1 18 (by decide)]; exact h7, by rw [x1 _ (by decide)]; exact h8, by rw [x1 _ (by decide)]; exact h9⟩
    obtain ⟨I', q1, q2, q3⟩ := e_adv (L := L) (n := n) hs hP hg
    rw [if_neg (show ¬ nI d = 6 from fun z => by have := (nI_eq (b := 6) (by omega) (by omega)).mp z; omega), Option.bind_some, nI_1, pi_197_16 hs, Option.bind_some, ← hI1, gi_197_12 hs, Option.bind_some, hP.2.2.2.1, if_pos rfl, cv_197 hs, q1, Option.bind_some]
    exact ⟨I', rfl, by rw [if_pos e]; exact q2, k1.tr q3.e⟩
  · obtain ⟨I1, q1, q2, q3, -, q5⟩ := e_blames (L := L) (n := n) hs h hg (k := 4) (by omega)
    rw [if_pos (show nI d = 6 by rw [show d = 6 by omega]; rfl), cv_197 hs, show F_X12_blames (some 197) 4 (mk S I L R n) = _ from q1, Option.bind_some, gi_197_16 hs, Option.bind_some, pi_197_16 hs, Option.bind_some, gi_197_12 hs, Option.bind_some, up2_row, up1_ne _ _ (by decide), if_neg q2.ne]
    refine ⟨_, rfl, ?_, q3.tr ⟨fun x a _ => up2_ne _ _ _ a, fun j _ b => by rw [up2_row, up1_ne _ _ b], fun j _ _ => by rw [up2_ne _ _ _ (by decide)]⟩⟩
    rw [if_neg e]
    exact ⟨by rw [up2_row, up1_ne _ _ (by decide)]; exact q2.1, by rw [up2_row, up1_ne _ _ (by decide)]; exact q2.2.1, q2.2.2⟩
end EN
