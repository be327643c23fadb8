/-! the class reads sums, put together -/
section CS2
variable {Ls : Nat} {xs : Nat → Int32} {S : mkS} {L : mkL} {R : mkR} {n : Nat × Nat} {B : BT} {w : Nat}
theorem c_addL (hs : St S R) {p : PT_X7_readAtom} {d : Nat} {sub : TKN → LR} {c : Nat} (ha : CSp Ls xs S L R n B w (fun h => p.2.2 (some 163) (nI d) h) (termP B w sub)) (hao : ∀ t, TKg B.1 B.2 t → RGo B w false c t.1 (termP B w sub t)) (l0 : List Nat) : ∀ (r g i : Nat) (t : TKN) (l : List Nat) (I : mkI), i + r = 900 → r < g → PsC (Ls, xs, S, R) B w t (l0 ++ l) I → TKg B.1 B.2 t → l0.length + l.length ≤ t.1 → ∃ I' v, F_X7_readSum_8 p g (some 163) (nI d) 1 (nI i) (mk S I L R n) = some (v, mk S I' L R n) ∧ CO (Ls, xs, S, R) B w l0 (addL B w sub r t l) v I' ∧ kQ I I' := by
  intro r
  induction r with
  | zero =>
    intro g i t l I hi hg' h hg hlt
    obtain ⟨g, rfl⟩ : ∃ y, g = y + 1 := ⟨g - 1, by omega⟩
    simp only [F_X7_readSum_8, F_X7_readSum_91]
    rw [if_pos (show (900 : Int32) ≤ nI i from nI_le (a := 900) (by omega) (by omega)), rZ_1]
    exact ⟨I, 1, rfl, ⟨rfl, h⟩, kQ.rf⟩
  | succ r ih =>
    intro g i t l I hi hg' h hg hlt
    obtain ⟨g, rfl⟩ : ∃ y, g = y + 1 := ⟨g - 1, by omega⟩
    have s43 : F_X9_isSign (some 164) (43 : Int32) (mk S I L R n) = some (b2i (sgB B.1 t 43), mk S I L R n) := c_isSign hs (c := 43) h.2.1 hg h.2.2.1 (by decide)
    have s45 : F_X9_isSign (some 164) (45 : Int32) (mk S I L R n) = some (b2i (sgB B.1 t 45), mk S I L R n) := c_isSign hs (c := 45) h.2.1 hg h.2.2.1 (by decide)
    have step : ∀ o : Nat, t.2.2 ≠ 0 → 2000 ≤ o → ∃ I' v, F_X7_readSum_64 p (F_X7_readSum_8 p g) (some 163) (nI d) (nI i) (nI o) (mk S I L R n) = some (v, mk S I' L R n) ∧ CO (Ls, xs, S, R) B w l0 (thn (termP B w sub (nx B t)) (fun t' l' => addL B w sub r t' (l ++ l' ++ [o]))) v I' ∧ kQ I I' := fun o hk ho => by
      obtain ⟨I1, q1, q2, q3⟩ := c_adv (L := L) (n := n) hs h hg
      have hn := nx_g hg
      have hn1 := nx_1 hg hk
      obtain ⟨I2, v2, r1, r2, r3⟩ := ha (nx B t) (l0 ++ l) I1 q2 hn.1 (by rw [List.length_append]; omega)
      have r1' : p.2.2 (some 163) (nI d) (mk S I1 L R n) = some (v2, mk S I2 L R n) := r1
      have ro := hao _ hn.1
      unfold F_X7_readSum_64
      rw [gr_163_0 hs, Option.bind_some, cv_164 hs, q1, Option.bind_some, cv_163 hs, r1', b2_some, cv_163 hs, nI_1]
      cases e3 : termP B w sub (nx B t) with
      | inl e =>
        rw [e3] at r2
        obtain ⟨rfl, r2⟩ := r2
        obtain ⟨I3, s1, s2, s3⟩ := c_emitF (L := L) (n := n) hs r2 (nI o)
        rw [s1, Option.bind_some]
        obtain ⟨g, rfl⟩ : ∃ y, g = y + 1 := ⟨g - 1, by omega⟩
        simp only [F_X7_readSum_8, F_X7_readSum_91]
        by_cases e4 : (900 : Int32) ≤ nI (i + 1)
        · rw [if_pos e4, rZ_0]; exact ⟨I3, 0, rfl, ⟨rfl, s2⟩, (q3.q.tr r3).tr s3⟩
        · rw [if_neg e4, if_pos trivial, rZ_0]; exact ⟨I3, 0, rfl, ⟨rfl, s2⟩, (q3.q.tr r3).tr s3⟩
      | inr pr =>
        obtain ⟨t', l'⟩ := pr
        rw [e3] at r2 ro
        obtain ⟨rfl, r2⟩ := r2
        have hN := r2.2.1.1
        have hb1 := ro.1.1.1
        have hb2 : (nx B t).1 + l'.length ≤ t'.1 := ro.2.1
        obtain ⟨I3, s1, s2, s3⟩ := c_emit (L := L) (n := n) hs r2 (by rw [List.length_append, List.length_append]; omega) o
        rw [s1, Option.bind_some]
        obtain ⟨I4, v4, u1, u2, u3⟩ := ih g (i + 1) t' (l ++ l' ++ [o]) I3 (by omega) (by omega) (by rw [← List.append_assoc, ← List.append_assoc]; exact s2) ro.1 (by rw [List.length_append, List.length_append]; show l0.length + (l.length + l'.length + 1) ≤ t'.1; omega)
        exact ⟨I4, v4, u1, u2, ((q3.q.tr r3).tr s3).tr u3⟩
    have s43b : (sgB B.1 t 43 = true ∨ sgB B.1 t 45 = true) → ∃ I' v, F_X7_readSum_43 p (F_X7_readSum_8 p g) (some 163) (nI d) (nI i) (mk S I L R n) = some (v, mk S I' L R n) ∧ CO (Ls, xs, S, R) B w l0 (thn (termP B w sub (nx B t)) (fun t' l' => addL B w sub r t' (l ++ l' ++ [if sgB B.1 t 43 = true then 2000 else 2001]))) v I' ∧ kQ I I' := fun hor => by
      have hk := hor.elim sgB_k sgB_k
      unfold F_X7_readSum_43
      rw [gr_163_0 hs, Option.bind_some, cv_164 hs, s43, b2_some]
      by_cases e1 : sgB B.1 t 43 = true
      · rw [e1, if_neg (show ¬ b2i true = 0 by decide), if_pos rfl]
        exact step 2000 hk (by decide)
      · rw [show sgB B.1 t 43 = false by simpa using e1, if_pos (show b2i false = 0 from rfl), if_neg Bool.false_ne_true]
        exact step 2001 hk (by decide)
    rw [addL]
    simp only [F_X7_readSum_8, F_X7_readSum_91]
    rw [if_neg (show ¬ (900 : Int32) ≤ nI i from nI_ge (b := 900) (by omega) (by omega)), if_neg (by decide), gr_163_0 hs, Option.bind_some, cv_164 hs, s43, b2_some]
    by_cases e1 : sgB B.1 t 43 = true
    · rw [if_pos (show sgB B.1 t 43 = true ∨ sgB B.1 t 45 = true from .inl e1)]
      have := s43b (.inl e1)
      rw [e1] at this ⊢
      rw [if_neg (show ¬ b2i true = 0 by decide)]
      exact this
    · have e1' : sgB B.1 t 43 = false := by simpa using e1
      by_cases e2 : sgB B.1 t 45 = true
      · rw [if_pos (show sgB B.1 t 43 = true ∨ sgB B.1 t 45 = true from .inr e2)]
        have := s43b (.inr e2)
        rw [e1'] at this ⊢
        rw [if_pos (show b2i false = 0 from rfl), gr_163_0 hs, Option.bind_some, cv_164 hs, s45, b2_some, e2, if_neg (show ¬ b2i true = 0 by decide)]
        exact this
      · rw [if_neg (show ¬ (sgB B.1 t 43 = true ∨ sgB B.1 t 45 = true) from fun z => z.elim e1 e2), e1', if_pos (show b2i false = 0 from rfl), gr_163_0 hs, Option.bind_some, cv_164 hs, s45, b2_some, show sgB B.1 t 45 = false by simpa using e2, if_pos (show b2i false = 0 from rfl), rZ_1]
        exact ⟨I, 1, rfl, ⟨rfl, h⟩, kQ.rf⟩
theorem c_sumG (hs : St S R) {p : PT_X7_readAtom} {d : Nat} {sub : TKN → LR} {c : Nat} (ha : CSp Ls xs S L R n B w (fun h => p.2.2 (some 163) (nI d) h) (termP B w sub)) (hao : ∀ t, TKg B.1 B.2 t → RGo B w false c t.1 (termP B w sub t)) : CSp Ls xs S L R n B w (fun h => F_X7_readSum p (some 163) (nI d) h) (sumG B w sub) := by
  intro t l I h hg hlt
  obtain ⟨I2, v2, r1, r2, r3⟩ := ha t l I h hg hlt
  have r1' : p.2.2 (some 163) (nI d) (mk S I L R n) = some (v2, mk S I2 L R n) := r1
  have ro := hao _ hg
  show ∃ I' v, F_X7_readSum p (some 163) (nI d) (mk S I L R n) = _ ∧ _
  unfold F_X7_readSum sumG
  rw [cv_163 hs, r1', b2_some]
  cases e3 : termP B w sub t with
  | inl e =>
    rw [e3] at r2
    obtain ⟨rfl, r2⟩ := r2
    obtain ⟨g, eg⟩ : ∃ g, mm_N = g + 1 := ⟨mm_N - 1, by unfold mm_N; omega⟩
    rw [eg]
    simp only [F_X7_readSum_8, F_X7_readSum_91]
    rw [if_neg (by decide), if_pos trivial, rZ_0]
    exact ⟨I2, 0, rfl, ⟨rfl, r2⟩, r3⟩
  | inr pr =>
    obtain ⟨t', l'⟩ := pr
    rw [e3] at r2 ro
    obtain ⟨rfl, r2⟩ := r2
    have hb2 : t.1 + l'.length ≤ t'.1 := ro.2.1
    obtain ⟨I4, v4, u1, u2, u3⟩ := c_addL (L := L) (n := n) hs ha hao l 900 mm_N 0 t' l' I2 rfl (by show 900 < 1000000; omega) r2 ro.1 (by omega)
    exact ⟨I4, v4, u1, u2, r3.tr u3⟩
/-- the reader of sums at depth d -/
theorem c_sumP (hs : St S R) (hw : w ≤ 2) : ∀ (r d g : Nat), d + r = 6 → 3 * r + 3 ≤ g → CSp Ls xs S L R n B w (fun h => (G_X7_readAtom g).2.1 (some 163) (nI d) h) (sumP B w r) := by
  intro r
  induction r with
  | zero =>
    intro d g hd hg
    obtain ⟨g, rfl⟩ : ∃ y, g = y + 3 := ⟨g - 3, by omega⟩
    have h1 := c_atomP (L := L) (n := n) (xs := xs) (Ls := Ls) hs hw (p := G_X7_readAtom g) (d := d) (by omega) (f := sumP B w 0) (c := 2) (fun z => absurd z (by omega)) (fun t ht => sumP_ok 0 t ht)
    rw [if_neg (by omega)] at h1
    have o1 : ∀ t, TKg B.1 B.2 t → RGo B w false 0 t.1 (atomP B w (fun t => .inl (rf t 4)) t) := fun t ht => atomP_ok (c := 0) (fun t _ _ => RGo.bad (by omega)) ht
    have h2 := c_termP (L := L) (n := n) hs (p := G_X7_readAtom (g + 1)) (d := d) h1 o1
    have o2 : ∀ t, TKg B.1 B.2 t → RGo B w false 1 t.1 (termP B w (fun t => .inl (rf t 4)) t) := fun t ht => termP_ok (c := 0) (fun t _ _ => RGo.bad (by omega)) ht
    exact c_sumG (L := L) (n := n) hs (p := G_X7_readAtom (g + 2)) (d := d) h2 o2
  | succ r ih =>
    intro d g hd hg
    obtain ⟨g, rfl⟩ : ∃ y, g = y + 3 := ⟨g - 3, by omega⟩
    have h1 := c_atomP (L := L) (n := n) (xs := xs) (Ls := Ls) hs hw (p := G_X7_readAtom g) (d := d) (by omega) (f := sumP B w r) (c := 2 * r + 2) (fun z => ih (d + 1) g (by omega) (by omega)) (fun t ht => sumP_ok r t ht)
    rw [if_pos (by omega)] at h1
    have os : ∀ t, TKg B.1 B.2 t → sgB B.1 t 40 = true → RGo B w false (2 * r + 2) t.1 (par B 41 (sumP B w r) t) := fun t ht hk => par_ok (sumP_ok r) ht (sgB_k hk)
    have h2 := c_termP (L := L) (n := n) hs (p := G_X7_readAtom (g + 1)) (d := d) h1 (fun t ht => atomP_ok os ht)
    exact c_sumG (L := L) (n := n) hs (p := G_X7_readAtom (g + 2)) (d := d) h2 (fun t ht => termP_ok os ht)
end CS2
