/-! the reference reads sums -/
section EO
variable {Ls : Nat} {xs : Nat → Int32} {S : mkS} {L : mkL} {R : mkR} {n : Nat × Nat} {B : BT} {w d : Nat}
theorem PsR.deep {t : TKN} {l : List Nat} {I : mkI} (h : PsR (Ls, xs, S, R) B w d t l I) (d' : Nat) : PsR (Ls, xs, S, R) B w d' t l (up2 I 197 16 (nI d')) := by
  obtain ⟨h1, h2, h3, h4, h5, h6, h7, h8, h9⟩ := h
  have m1 : ∀ j, j ≠ 16 → (up2 I 197 16 (nI d')) 197 j = I 197 j := fun j hj => by rw [up2_row, up1_ne _ _ hj]
  have x1 : ∀ x, x ≠ 197 → (up2 I 197 16 (nI d')) x = I x := fun x hx => up2_ne _ _ _ hx
  exact ⟨h1.fr (fun _ _ => rfl) (fun a ha => x1 a (by show a ≠ 197; omega)) (fun _ _ => rfl), by unfold TpR; rw [m1 7 (by decide), x1 _ (by decide)]; exact h2, by unfold TkR; rw [m1 8 (by decide), m1 9 (by decide), m1 10 (by decide), m1 11 (by decide)]; exact h3, by rw [m1 12 (by decide)]; exact h4, up2_self _ _ _ _, by rw [m1 17 (by decide)]; exact h6, by rw [m1 18 (by decide)]; exact h7, by rw [x1 _ (by decide)]; exact h8, by rw [x1 _ (by decide)]; exact h9⟩
theorem kE.deep {I : mkI} {v : Int32} : kE w I (up2 I 197 16 v) := ⟨fun x a _ => up2_ne _ _ _ a, fun j _ b => by rw [up2_row, up1_ne _ _ b], fun j _ _ => by rw [up2_ne _ _ _ (by decide)]⟩
theorem FlR.deep {e : Nat × Nat} {I : mkI} (h : FlR e I) (v : Int32) : FlR e (up2 I 197 16 v) := ⟨by rw [up2_row, up1_ne _ _ (by decide)]; exact h.1, by rw [up2_row, up1_ne _ _ (by decide)]; exact h.2.1, h.2.2⟩
def BadId (S : mkS) (L : mkL) (R : mkR) (n : Nat × Nat) (φ : MH → Option MH) : Prop := ∀ I : mkI, ¬ I 197 12 = 0 → φ (mk S I L R n) = some (mk S I L R n)
theorem e_atomP (hs : St S R) (hw : w ≤ 2) {p : PT_X12_readAtom} (hd : d ≤ 6) {f : TKN → LR} {c : Nat} (hb : BadId S L R n (fun h => p.2.1 (some 197) h)) (hf : d < 6 → ESp Ls xs S L R n B w (d + 1) (fun h => p.2.1 (some 197) h) f) (hfo : ∀ t, TKg B.1 B.2 t → RGo B w false c t.1 (f t)) : ESp Ls xs S L R n B w d (fun h => F_X12_readAtom p (some 197) h) (atomP B w (if d < 6 then par B 41 f else fun t => .inl (rf t 4))) := by
  intro t l I h hg hlt
  have hN := h.2.1.1
  have ht9 := hg.1.1
  have he9 := hg.1.2.1
  show ∃ I', F_X12_readAtom p (some 197) (mk S I L R n) = _ ∧ _
  unfold F_X12_readAtom F_X12_readAtom_83
  rw [gi_197_12 hs, Option.bind_some, h.2.2.2.1, if_pos rfl, cv_197 hs]
  obtain ⟨I1, v1, q1, q2, q3⟩ := e_lawWord (L := L) (n := n) hs hw h hg
  rw [q1, b2_some]
  unfold atomP
  cases e5 : vrB B.1 w t with
  | some k =>
    obtain ⟨k1, k2⟩ := vrB_k e5
    have kv : k < 6 := by have : mwV w ≤ 6 := by unfold mwV; split <;> (try split) <;> omega
                          omega
    rw [e5] at q2
    obtain ⟨rfl, q2⟩ := q2
    have n40 : ¬ sgB B.1 t 40 = true := fun z => by unfold sgB at z; rw [Bool.and_eq_true, decide_eq_true_eq] at z; omega
    have hse := hg.1.2.2.2.2 (by omega)
    obtain ⟨I2, r1, r2, r3⟩ := e_laysO (L := L) (n := n) hs hw q2 (by omega) (1000 + k)
    rw [if_neg n40, if_neg (show ¬ t.2.2 = 3 by omega), if_neg (nI_nm1 (by omega)), cv_197 hs, show (100 : Int32) + nI k = nI (gam (1000 + k)) by rw [show (100 : Int32) + nI k = nI (100 + k) from nI_add 100 k]; congr 1; unfold gam; rw [if_neg (by omega), if_pos (by omega)]; omega, r1, Option.bind_some]
    exact ⟨I2, rfl, r2, q3.e.tr r3⟩
  | none =>
    rw [e5] at q2
    obtain ⟨rfl, rfl⟩ := q2
    rw [if_pos rfl, cv_197 hs, show F_X12_isSign (some 197) 40 (mk S I1 L R n) = _ from e_sign hs h hg (c := 40) (by omega), b2_some]
    cases e1 : sgB B.1 t 40 with
    | true =>
      obtain ⟨I2, r1, r2, r3⟩ := e_goesIn (L := L) (n := n) hs h hg hd
      rw [if_neg (show ¬ b2i true = 0 by decide), if_pos rfl, cv_197 hs, r1, Option.bind_some, cv_197 hs]
      by_cases e2 : d < 6
      · rw [if_pos e2] at r2 ⊢
        have hn := nx_g hg
        have hn1 := nx_1 hg (sgB_k e1)
        obtain ⟨I3, s1, s2, s3⟩ := hf e2 (nx B t) l I2 r2 hn.1 (by omega)
        have s1' : p.2.1 (some 197) (mk S I2 L R n) = some (mk S I3 L R n) := s1
        have ro := hfo _ hn.1
        rw [s1', Option.bind_some, cv_197 hs]
        unfold par
        cases e3 : f (nx B t) with
        | inl e =>
          rw [e3] at s2
          have s2' : FlR e I3 := s2
          rw [e_mustSignF hs s2'.ne, Option.bind_some, gi_197_16 hs, Option.bind_some, pi_197_16 hs, Option.bind_some]
          exact ⟨_, rfl, s2'.deep _, ((q3.e.tr r3).tr s3).tr kE.deep⟩
        | inr pr =>
          obtain ⟨t', l'⟩ := pr
          rw [e3] at s2 ro
          have s2' : PsR (Ls, xs, S, R) B w (d + 1) t' (l ++ l') I3 := s2
          obtain ⟨I4, u1, u2, u3⟩ := e_mustSign (L := L) (n := n) hs s2' ro.1 (c := 41) (by omega)
          rw [show F_X12_mustSign (some 197) 41 (mk S I3 L R n) = _ from u1, Option.bind_some, gi_197_16 hs, Option.bind_some, pi_197_16 hs, Option.bind_some]
          show ∃ I', _ ∧ EO _ B w d l (if sgB B.1 t' 41 = true then .inr (nx B t', l') else .inl (rf t' 2)) I' ∧ _
          by_cases e4 : sgB B.1 t' 41 = true
          · rw [if_pos e4] at u2 ⊢
            rw [u2.2.2.2.2.1, nI_sub1 (by omega), Nat.add_sub_cancel]
            exact ⟨_, rfl, u2.deep d, (((q3.e.tr r3).tr s3).tr u3).tr kE.deep⟩
          · rw [if_neg e4] at u2 ⊢
            exact ⟨_, rfl, u2.deep _, (((q3.e.tr r3).tr s3).tr u3).tr kE.deep⟩
      · rw [if_neg e2] at r2 ⊢
        have hb' : p.2.1 (some 197) (mk S I2 L R n) = some (mk S I2 L R n) := hb I2 r2.ne
        rw [hb', Option.bind_some, cv_197 hs, e_mustSignF hs r2.ne, Option.bind_some, gi_197_16 hs, Option.bind_some, pi_197_16 hs, Option.bind_some]
        exact ⟨_, rfl, r2.deep _, (q3.e.tr r3).tr kE.deep⟩
    | false =>
      obtain ⟨I2, v2, r1, r2, r3⟩ := e_number0 (L := L) (n := n) hs h.2.1 h.2.2.1 h.2.2.2.1 hg (lo := 0) (hi := 999) (by omega) (by omega)
      rw [if_pos (show b2i false = 0 from rfl), if_neg Bool.false_ne_true, cv_197 hs, show F_X12_number (some 197) 0 999 (mk S I1 L R n) = _ from r1, b2_some, cv_197 hs]
      by_cases e2 : t.2.2 = 3
      · have hv := nmV_lt hg e2
        have hse := hg.1.2.2.2.2 (by omega)
        rw [if_pos ⟨e2, Nat.zero_le _, by omega⟩] at r2
        obtain ⟨rfl, r2, rk⟩ := r2
        obtain ⟨I3, s1, s2, s3⟩ := e_laysO (L := L) (n := n) hs hw (h.k rk r2) (by omega) (nmV B.1 t)
        rw [if_pos e2, show (1000 : Int32) + nI (nmV B.1 t) = nI (gam (nmV B.1 t)) by rw [show (1000 : Int32) + nI (nmV B.1 t) = nI (1000 + nmV B.1 t) from nI_add 1000 _]; congr 1; unfold gam; rw [if_pos hv], s1, Option.bind_some]
        exact ⟨I3, rfl, s2, (q3.e.tr r3.e).tr s3⟩
      · rw [if_neg (fun z => e2 z.1), if_neg e2] at r2
        obtain ⟨rfl, r2⟩ := r2
        rw [if_neg e2, e_laysF hs r2.ne, Option.bind_some]
        exact ⟨I2, rfl, r2, q3.e.tr r3.e⟩
theorem e_mulL (hs : St S R) (hw : w ≤ 2) {p : PT_X12_readAtom} {sub : TKN → LR} {c : Nat} (ha : ESp Ls xs S L R n B w d (fun h => p.1 (some 197) h) (atomP B w sub)) (hao : ∀ t, TKg B.1 B.2 t → RGo B w false c t.1 (atomP B w sub t)) (l0 : List Nat) : ∀ (r g i : Nat) (t : TKN) (l : List Nat) (I : mkI), i + r = 900 → r + 1 < g → i ≤ t.1 → PsR (Ls, xs, S, R) B w d t (l0 ++ l) I → TKg B.1 B.2 t → l0.length + l.length ≤ t.1 → ∃ I', F_X12_readTerm_4 p g (some 197) (mk S I L R n) = some (mk S I' L R n) ∧ EO (Ls, xs, S, R) B w d l0 (mulL B w sub r t l) I' ∧ kE w I I' := by
  intro r
  induction r with
  | zero =>
    intro g i t l I hi hg' hit h hg hlt
    obtain ⟨g, rfl⟩ : ∃ y, g = y + 1 := ⟨g - 1, by omega⟩
    have hN := h.2.1.1
    have e1 : sgB B.1 t 42 = false := by
      cases hh : sgB B.1 t 42 with
      | false => rfl
      | true =>
        have h1 := hg.1.2.2.2.2 (sgB_k hh)
        have h2 := hg.1.2.1
        omega
    simp only [F_X12_readTerm_4]
    rw [cv_197 hs, show F_X12_isSign (some 197) 42 (mk S I L R n) = _ from e_sign hs h hg (c := 42) (by omega), e1, b2_some, if_pos (show b2i false = 0 from rfl)]
    exact ⟨I, rfl, h, kE.rf⟩
  | succ r ih =>
    intro g i t l I hi hg' hit h hg hlt
    obtain ⟨g, rfl⟩ : ∃ y, g = y + 1 := ⟨g - 1, by omega⟩
    rw [mulL]
    simp only [F_X12_readTerm_4]
    rw [cv_197 hs, show F_X12_isSign (some 197) 42 (mk S I L R n) = _ from e_sign hs h hg (c := 42) (by omega), b2_some]
    cases e1 : sgB B.1 t 42 with
    | false =>
      rw [if_pos (show b2i false = 0 from rfl), if_neg Bool.false_ne_true]
      exact ⟨I, rfl, h, kE.rf⟩
    | true =>
      obtain ⟨I1, q1, q2, q3⟩ := e_adv (L := L) (n := n) hs h hg
      have hn := nx_g hg
      have hn1 := nx_1 hg (sgB_k e1)
      obtain ⟨I2, r1, r2, r3⟩ := ha (nx B t) (l0 ++ l) I1 q2 hn.1 (by rw [List.length_append]; omega)
      have r1' : p.1 (some 197) (mk S I1 L R n) = some (mk S I2 L R n) := r1
      have ro := hao _ hn.1
      rw [if_neg (show ¬ b2i true = 0 by decide), if_pos rfl, cv_197 hs, q1, Option.bind_some, cv_197 hs, r1', Option.bind_some, cv_197 hs]
      cases e3 : atomP B w sub (nx B t) with
      | inl e =>
        rw [e3] at r2
        have r2' : FlR e I2 := r2
        rw [e_laysF hs r2'.ne, Option.bind_some]
        obtain ⟨g, rfl⟩ : ∃ y, g = y + 1 := ⟨g - 1, by omega⟩
        simp only [F_X12_readTerm_4]
        rw [cv_197 hs, e_isSignF hs r2'.ne, b2_some, if_pos (show (0 : Int32) = 0 from rfl)]
        exact ⟨I2, rfl, r2', q3.e.tr r3⟩
      | inr pr =>
        obtain ⟨t', l'⟩ := pr
        rw [e3] at r2 ro
        have r2' : PsR (Ls, xs, S, R) B w d t' (l0 ++ l ++ l') I2 := r2
        have hN := r2'.2.1.1
        have hb1 := ro.1.1.1
        have hb2 : (nx B t).1 + l'.length ≤ t'.1 := ro.2.1
        have hb3 := ro.2.2.1
        obtain ⟨I3, s1, s2, s3⟩ := e_laysO (L := L) (n := n) hs hw r2' (by rw [List.length_append, List.length_append]; omega) 2002
        rw [show F_X12_laysStep (some 197) 12 (mk S I2 L R n) = _ from s1, Option.bind_some]
        obtain ⟨I4, u1, u2, u3⟩ := ih g (i + 1) t' (l ++ l' ++ [2002]) I3 (by omega) (by omega) (by omega) (by rw [← List.append_assoc, ← List.append_assoc]; exact s2) ro.1 (by rw [List.length_append, List.length_append]; show l0.length + (l.length + l'.length + 1) ≤ t'.1; omega)
        exact ⟨I4, u1, u2, ((q3.e.tr r3).tr s3).tr u3⟩
theorem e_termP (hs : St S R) (hw : w ≤ 2) {p : PT_X12_readAtom} {sub : TKN → LR} {c : Nat} (ha : ESp Ls xs S L R n B w d (fun h => p.1 (some 197) h) (atomP B w sub)) (hao : ∀ t, TKg B.1 B.2 t → RGo B w false c t.1 (atomP B w sub t)) : ESp Ls xs S L R n B w d (fun h => F_X12_readTerm p (some 197) h) (termP B w sub) := by
  intro t l I h hg hlt
  obtain ⟨I2, r1, r2, r3⟩ := ha t l I h hg hlt
  have r1' : p.1 (some 197) (mk S I L R n) = some (mk S I2 L R n) := r1
  have ro := hao _ hg
  show ∃ I', F_X12_readTerm p (some 197) (mk S I L R n) = _ ∧ _
  unfold F_X12_readTerm termP
  rw [cv_197 hs, r1', Option.bind_some]
  cases e3 : atomP B w sub t with
  | inl e =>
    rw [e3] at r2
    have r2' : FlR e I2 := r2
    obtain ⟨g, eg⟩ : ∃ g, mm_N = g + 1 := ⟨mm_N - 1, by unfold mm_N; omega⟩
    rw [eg]
    simp only [F_X12_readTerm_4]
    rw [cv_197 hs, e_isSignF hs r2'.ne, b2_some, if_pos (show (0 : Int32) = 0 from rfl)]
    exact ⟨I2, rfl, r2', r3⟩
  | inr pr =>
    obtain ⟨t', l'⟩ := pr
    rw [e3] at r2 ro
    have hb2 : t.1 + l'.length ≤ t'.1 := ro.2.1
    obtain ⟨I4, u1, u2, u3⟩ := e_mulL (L := L) (n := n) hs hw ha hao l 900 mm_N 0 t' l' I2 rfl (by show 900 + 1 < 1000000; omega) (Nat.zero_le _) r2 ro.1 (by omega)
    exact ⟨I4, u1, u2, r3.tr u3⟩
end EO
