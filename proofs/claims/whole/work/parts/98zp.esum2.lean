/-! the reference reads sums, put together -/
section EP
variable {Ls : Nat} {xs : Nat → Int32} {S : mkS} {L : mkL} {R : mkR} {n : Nat × Nat} {B : BT} {w d : Nat}
theorem e_addL (hs : St S R) (hw : w ≤ 2) {p : PT_X12_readAtom} {sub : TKN → LR} {c : Nat} (ha : ESp Ls xs S L R n B w d (fun h => p.2.2 (some 197) h) (termP B w sub)) (hao : ∀ t, TKg B.1 B.2 t → RGo B w false c t.1 (termP B w sub t)) (l0 : List Nat) : ∀ (r g i : Nat) (t : TKN) (l : List Nat) (I : mkI), i + r = 900 → r + 1 < g → i ≤ t.1 → PsR (Ls, xs, S, R) B w d t (l0 ++ l) I → TKg B.1 B.2 t → l0.length + l.length ≤ t.1 → ∃ I', F_X12_readSum_4 p g (some 197) (mk S I L R n) = some (mk S I' L R n) ∧ EO (Ls, xs, S, R) B w d l0 (addL B w sub r t l) I' ∧ kE w I I' := by
  intro r
  induction r with
  | zero =>
    intro g i t l I hi hg' hit h hg hlt
    obtain ⟨g, rfl⟩ : ∃ y, g = y + 1 := ⟨g - 1, by omega⟩
    have hN := h.2.1.1
    have none' : ∀ c, sgB B.1 t c = false := fun c => by
      cases hh : sgB B.1 t c with
      | false => rfl
      | true =>
        have h1 := hg.1.2.2.2.2 (sgB_k hh)
        have h2 := hg.1.2.1
        omega
    simp only [F_X12_readSum_4]
    rw [cv_197 hs, show F_X12_isSign (some 197) 43 (mk S I L R n) = _ from e_sign hs h hg (c := 43) (by omega), none' 43, b2_some, if_pos (show b2i false = 0 from rfl), cv_197 hs, show F_X12_isSign (some 197) 45 (mk S I L R n) = _ from e_sign hs h hg (c := 45) (by omega), none' 45, b2_some, if_pos (show b2i false = 0 from rfl)]
    exact ⟨I, rfl, h, kE.rf⟩
  | succ r ih =>
    intro g i t l I hi hg' hit h hg hlt
    obtain ⟨g, rfl⟩ : ∃ y, g = y + 1 := ⟨g - 1, by omega⟩
    have s43 : F_X12_isSign (some 197) 43 (mk S I L R n) = some (b2i (sgB B.1 t 43), mk S I L R n) := e_sign hs h hg (c := 43) (by omega)
    have s45 : F_X12_isSign (some 197) 45 (mk S I L R n) = some (b2i (sgB B.1 t 45), mk S I L R n) := e_sign hs h hg (c := 45) (by omega)
    have step : ∀ o : Nat, 2000 ≤ o → ∀ I2 : mkI, EO (Ls, xs, S, R) B w d (l0 ++ l) (termP B w sub (nx B t)) I2 → kE w I I2 → t.2.2 ≠ 0 → ∃ I', F_X12_readSum_49 p (F_X12_readSum_4 p g) (some 197) (nI (gam o)) (some 197) (mk S I2 L R n) = some (mk S I' L R n) ∧ EO (Ls, xs, S, R) B w d l0 (thn (termP B w sub (nx B t)) (fun t' l' => addL B w sub r t' (l ++ l' ++ [o]))) I' ∧ kE w I I' := fun o ho I2 r2 k2 hk => by
      have hn := nx_g hg
      have hn1 := nx_1 hg hk
      have ro := hao _ hn.1
      unfold F_X12_readSum_49
      rw [cv_197 hs]
      cases e3 : termP B w sub (nx B t) with
      | inl e =>
        rw [e3] at r2
        have r2' : FlR e I2 := r2
        rw [e_laysF hs r2'.ne, Option.bind_some]
        obtain ⟨g, rfl⟩ : ∃ y, g = y + 1 := ⟨g - 1, by omega⟩
        simp only [F_X12_readSum_4]
        rw [cv_197 hs, e_isSignF hs r2'.ne, b2_some, if_pos (show (0 : Int32) = 0 from rfl), cv_197 hs, e_isSignF hs r2'.ne, b2_some, if_pos (show (0 : Int32) = 0 from rfl)]
        exact ⟨I2, rfl, r2', k2⟩
      | inr pr =>
        obtain ⟨t', l'⟩ := pr
        rw [e3] at r2 ro
        have r2' : PsR (Ls, xs, S, R) B w d t' (l0 ++ l ++ l') I2 := r2
        have hN := r2'.2.1.1
        have hb1 := ro.1.1.1
        have hb2 : (nx B t).1 + l'.length ≤ t'.1 := ro.2.1
        have hb3 := ro.2.2.1
        obtain ⟨I3, s1, s2, s3⟩ := e_laysO (L := L) (n := n) hs hw r2' (by rw [List.length_append, List.length_append]; omega) o
        rw [s1, Option.bind_some]
        obtain ⟨I4, u1, u2, u3⟩ := ih g (i + 1) t' (l ++ l' ++ [o]) I3 (by omega) (by omega) (by omega) (by rw [← List.append_assoc, ← List.append_assoc]; exact s2) ro.1 (by rw [List.length_append, List.length_append]; show l0.length + (l.length + l'.length + 1) ≤ t'.1; omega)
        exact ⟨I4, u1, u2, (k2.tr s3).tr u3⟩
    have s22 : (sgB B.1 t 43 = true ∨ sgB B.1 t 45 = true) → ∃ I', F_X12_readSum_22 p (F_X12_readSum_4 p g) (some 197) (mk S I L R n) = some (mk S I' L R n) ∧ EO (Ls, xs, S, R) B w d l0 (thn (termP B w sub (nx B t)) (fun t' l' => addL B w sub r t' (l ++ l' ++ [if sgB B.1 t 43 = true then 2000 else 2001]))) I' ∧ kE w I I' := fun hor => by
      have hk := hor.elim sgB_k sgB_k
      obtain ⟨r1, -, -, -, -, r6⟩ := rtk_all hg
      obtain ⟨I1, q1, q2, q3⟩ := e_adv (L := L) (n := n) hs h hg
      have hn := nx_g hg
      have hn1 := nx_1 hg hk
      obtain ⟨I2, p1, p2, p3⟩ := ha (nx B t) (l0 ++ l) I1 q2 hn.1 (by rw [List.length_append]; omega)
      have p1' : p.2.2 (some 197) (mk S I1 L R n) = some (mk S I2 L R n) := p1
      unfold F_X12_readSum_22
      rw [gi_197_10 hs, Option.bind_some, h.2.2.1.2.2.1, cv_197 hs, q1, Option.bind_some, cv_197 hs, p1', Option.bind_some]
      have e43 : sgB B.1 t 43 = true ↔ nI (rtk B.1 t) = nI 43 := by
        unfold sgB
        rw [Bool.and_eq_true, decide_eq_true_eq, decide_eq_true_eq, nI_eq (by omega) (by omega), r6 43 (by omega)]
      by_cases e1 : sgB B.1 t 43 = true
      · rw [if_pos (show nI (rtk B.1 t) = 43 from e43.mp e1), if_pos e1]
        exact step 2000 (by decide) I2 p2 (q3.e.tr p3) hk
      · rw [if_neg (show ¬ nI (rtk B.1 t) = 43 from fun z => e1 (e43.mpr z)), if_neg e1]
        exact step 2001 (by decide) I2 p2 (q3.e.tr p3) hk
    rw [addL]
    simp only [F_X12_readSum_4]
    rw [cv_197 hs, s43, b2_some]
    by_cases e1 : sgB B.1 t 43 = true
    · rw [if_pos (show sgB B.1 t 43 = true ∨ sgB B.1 t 45 = true from .inl e1), e1, if_neg (show ¬ b2i true = 0 by decide)]
      have := s22 (.inl e1)
      rw [e1] at this
      exact this
    · have e1' : sgB B.1 t 43 = false := by simpa using e1
      rw [e1', if_pos (show b2i false = 0 from rfl), cv_197 hs, s45, b2_some]
      by_cases e2 : sgB B.1 t 45 = true
      · rw [if_pos (show false = true ∨ sgB B.1 t 45 = true from .inr e2), e2, if_neg (show ¬ b2i true = 0 by decide)]
        have := s22 (.inr e2)
        rw [e1'] at this
        exact this
      · rw [if_neg (show ¬ (false = true ∨ sgB B.1 t 45 = true) from fun z => z.elim (fun q => by cases q) e2), show sgB B.1 t 45 = false by simpa using e2, if_pos (show b2i false = 0 from rfl)]
        exact ⟨I, rfl, h, kE.rf⟩
theorem e_sumG (hs : St S R) (hw : w ≤ 2) {p : PT_X12_readAtom} {sub : TKN → LR} {c : Nat} (ha : ESp Ls xs S L R n B w d (fun h => p.2.2 (some 197) h) (termP B w sub)) (hao : ∀ t, TKg B.1 B.2 t → RGo B w false c t.1 (termP B w sub t)) : ESp Ls xs S L R n B w d (fun h => F_X12_readSum p (some 197) h) (sumG B w sub) := by
  intro t l I h hg hlt
  obtain ⟨I2, r1, r2, r3⟩ := ha t l I h hg hlt
  have r1' : p.2.2 (some 197) (mk S I L R n) = some (mk S I2 L R n) := r1
  have ro := hao _ hg
  show ∃ I', F_X12_readSum p (some 197) (mk S I L R n) = _ ∧ _
  unfold F_X12_readSum sumG
  rw [cv_197 hs, r1', Option.bind_some]
  cases e3 : termP B w sub t with
  | inl e =>
    rw [e3] at r2
    have r2' : FlR e I2 := r2
    obtain ⟨g, eg⟩ : ∃ g, mm_N = g + 1 := ⟨mm_N - 1, by unfold mm_N; omega⟩
    rw [eg]
    simp only [F_X12_readSum_4]
    rw [cv_197 hs, e_isSignF hs r2'.ne, b2_some, if_pos (show (0 : Int32) = 0 from rfl), cv_197 hs, e_isSignF hs r2'.ne, b2_some, if_pos (show (0 : Int32) = 0 from rfl)]
    exact ⟨I2, rfl, r2', r3⟩
  | inr pr =>
    obtain ⟨t', l'⟩ := pr
    rw [e3] at r2 ro
    have hb2 : t.1 + l'.length ≤ t'.1 := ro.2.1
    obtain ⟨I4, u1, u2, u3⟩ := e_addL (L := L) (n := n) hs hw ha hao l 900 mm_N 0 t' l' I2 rfl (by show 900 + 1 < 1000000; omega) (Nat.zero_le _) r2 ro.1 (by omega)
    exact ⟨I4, u1, u2, r3.tr u3⟩
/-- behind a fault sums read nothing -/
theorem e_sumF (hs : St S R) : ∀ g, 3 ≤ g → BadId S L R n (fun h => (G_X12_readAtom g).2.1 (some 197) h) := by
  intro g hg I hI
  obtain ⟨g, rfl⟩ : ∃ y, g = y + 3 := ⟨g - 3, by omega⟩
  obtain ⟨k, ek⟩ : ∃ k, mm_N = k + 1 := ⟨mm_N - 1, by unfold mm_N; omega⟩
  have a1 : F_X12_readAtom (G_X12_readAtom g) (some 197) (mk S I L R n) = some (mk S I L R n) := by
    unfold F_X12_readAtom
    rw [gi_197_12 hs, Option.bind_some, if_neg hI]
  have a2 : F_X12_readTerm (G_X12_readAtom (g + 1)) (some 197) (mk S I L R n) = some (mk S I L R n) := by
    unfold F_X12_readTerm
    rw [cv_197 hs, show (G_X12_readAtom (g + 1)).1 (some 197) (mk S I L R n) = _ from a1, Option.bind_some, ek]
    simp only [F_X12_readTerm_4]
    rw [cv_197 hs, e_isSignF hs hI, b2_some, if_pos (show (0 : Int32) = 0 from rfl)]
  show F_X12_readSum (G_X12_readAtom (g + 2)) (some 197) (mk S I L R n) = some (mk S I L R n)
  unfold F_X12_readSum
  rw [cv_197 hs, show (G_X12_readAtom (g + 2)).2.2 (some 197) (mk S I L R n) = _ from a2, Option.bind_some, ek]
  simp only [F_X12_readSum_4]
  rw [cv_197 hs, e_isSignF hs hI, b2_some, if_pos (show (0 : Int32) = 0 from rfl), cv_197 hs, e_isSignF hs hI, b2_some, if_pos (show (0 : Int32) = 0 from rfl)]
theorem e_sumP (hs : St S R) (hw : w ≤ 2) : ∀ (r d g : Nat), d + r = 6 → 3 * r + 6 ≤ g → ESp Ls xs S L R n B w d (fun h => (G_X12_readAtom g).2.1 (some 197) h) (sumP B w r) := by
  intro r
  induction r with
  | zero =>
    intro d g hd hg
    obtain ⟨g, rfl⟩ : ∃ y, g = y + 3 := ⟨g - 3, by omega⟩
    have h1 := e_atomP (L := L) (n := n) (xs := xs) (Ls := Ls) (B := B) hs hw (p := G_X12_readAtom g) (d := d) (by omega) (f := sumP B w 0) (c := 2) (e_sumF hs g (by omega)) (fun z => absurd z (by omega)) (fun t ht => sumP_ok 0 t ht)
    rw [if_neg (by omega)] at h1
    have o1 : ∀ t, TKg B.1 B.2 t → RGo B w false 0 t.1 (atomP B w (fun t => .inl (rf t 4)) t) := fun t ht => atomP_ok (c := 0) (fun t _ _ => RGo.bad (by omega)) ht
    have h2 := e_termP (L := L) (n := n) hs hw (p := G_X12_readAtom (g + 1)) (d := d) h1 o1
    have o2 : ∀ t, TKg B.1 B.2 t → RGo B w false 1 t.1 (termP B w (fun t => .inl (rf t 4)) t) := fun t ht => termP_ok (c := 0) (fun t _ _ => RGo.bad (by omega)) ht
    exact e_sumG (L := L) (n := n) hs hw (p := G_X12_readAtom (g + 2)) (d := d) h2 o2
  | succ r ih =>
    intro d g hd hg
    obtain ⟨g, rfl⟩ : ∃ y, g = y + 3 := ⟨g - 3, by omega⟩
    have h1 := e_atomP (L := L) (n := n) (xs := xs) (Ls := Ls) (B := B) hs hw (p := G_X12_readAtom g) (d := d) (by omega) (f := sumP B w r) (c := 2 * r + 2) (e_sumF hs g (by omega)) (fun z => ih (d + 1) g (by omega) (by omega)) (fun t ht => sumP_ok r t ht)
    rw [if_pos (by omega)] at h1
    have os : ∀ t, TKg B.1 B.2 t → sgB B.1 t 40 = true → RGo B w false (2 * r + 2) t.1 (par B 41 (sumP B w r) t) := fun t ht hk => par_ok (sumP_ok r) ht (sgB_k hk)
    have h2 := e_termP (L := L) (n := n) hs hw (p := G_X12_readAtom (g + 1)) (d := d) h1 (fun t ht => atomP_ok os ht)
    exact e_sumG (L := L) (n := n) hs hw (p := G_X12_readAtom (g + 2)) (d := d) h2 (fun t ht => termP_ok os ht)
end EP
