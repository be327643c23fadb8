/-! the class reads sums -/
section CS
variable {Ls : Nat} {xs : Nat → Int32} {S : mkS} {L : mkL} {R : mkR} {n : Nat × Nat} {B : BT} {w : Nat}
theorem c_atomP (hs : St S R) (hw : w ≤ 2) {p : PT_X7_readAtom} {d : Nat} (hd : d ≤ 6) {f : TKN → LR} {c : Nat} (hf : d < 6 → CSp Ls xs S L R n B w (fun h => p.2.1 (some 163) (nI (d + 1)) h) f) (hfo : ∀ t, TKg B.1 B.2 t → RGo B w false c t.1 (f t)) : CSp Ls xs S L R n B w (fun h => F_X7_readAtom p (some 163) (nI d) h) (atomP B w (if d < 6 then par B 41 f else fun t => .inl (rf t 4))) := by
  intro t l I h hg hlt
  have hl9 := h.len hg hlt
  show ∃ I' v, F_X7_readAtom p (some 163) (nI d) (mk S I L R n) = _ ∧ _
  unfold F_X7_readAtom atomP
  rw [gr_163_0 hs, Option.bind_some, cv_164 hs, show F_X9_isSign (some 164) (40 : Int32) (mk S I L R n) = _ from c_isSign hs (c := 40) h.2.1 hg h.2.2.1 (by decide), b2_some]
  cases e1 : sgB B.1 t 40 with
  | true =>
    rw [if_neg (show ¬ b2i true = 0 by decide), if_pos rfl, cv_163 hs]
    obtain ⟨I1, v1, q1, q2, q3⟩ := c_goDeeper (L := L) (n := n) hs h hg hl9 hd
    rw [q1, b2_some]
    unfold F_X7_readAtom_43 F_X7_readAtom_44
    by_cases e2 : d < 6
    · rw [if_pos e2] at q2 ⊢
      obtain ⟨rfl, q2⟩ := q2
      have hn := nx_g hg
      have hn1 := nx_1 hg (sgB_k e1)
      obtain ⟨I2, v2, r1, r2, r3⟩ := hf e2 (nx B t) l I1 q2 hn.1 (by omega)
      have r1' : p.2.1 (some 163) (nI d + 1) (mk S I1 L R n) = some (v2, mk S I2 L R n) := by rw [nI_1]; exact r1
      have ro := hfo _ hn.1
      rw [if_neg (by decide), cv_163 hs, r1', b2_some]
      unfold par
      cases e3 : f (nx B t) with
      | inl e =>
        rw [e3] at r2
        obtain ⟨rfl, r2⟩ := r2
        rw [if_pos rfl, rZ_0]
        exact ⟨I2, 0, rfl, ⟨rfl, r2⟩, q3.tr r3⟩
      | inr pr =>
        obtain ⟨t', l'⟩ := pr
        rw [e3] at r2 ro
        obtain ⟨rfl, r2⟩ := r2
        have hl2 : (l ++ l').length ≤ t'.1 := by rw [List.length_append]; have := ro.2.1; omega
        obtain ⟨I3, v3, s1, s2, s3⟩ := c_takeSign (L := L) (n := n) hs (c := 41) r2 ro.1 (r2.len ro.1 hl2) (by decide)
        rw [if_neg (by decide), cv_163 hs, show F_X7_takeSign (some 163) 41 (mk S I2 L R n) = _ from s1, b2_some]
        show ∃ I' v, _ ∧ CO _ B w l (if sgB B.1 t' 41 = true then .inr (nx B t', l') else .inl (rf t' 2)) v I' ∧ _
        by_cases e4 : sgB B.1 t' 41 = true
        · rw [if_pos e4] at s2 ⊢
          obtain ⟨rfl, s2⟩ := s2
          rw [if_neg (by decide), rZ_1]
          exact ⟨I3, 1, rfl, ⟨rfl, s2⟩, (q3.tr r3).tr s3⟩
        · rw [if_neg e4] at s2 ⊢
          obtain ⟨rfl, s2⟩ := s2
          rw [if_pos rfl, rZ_0]
          exact ⟨I3, 0, rfl, ⟨rfl, s2⟩, (q3.tr r3).tr s3⟩
    · rw [if_neg e2] at q2 ⊢
      obtain ⟨rfl, q2⟩ := q2
      rw [if_pos rfl, rZ_0]
      exact ⟨I1, 0, rfl, ⟨rfl, q2⟩, q3⟩
  | false =>
    rw [if_pos (show b2i false = 0 from rfl), if_neg Bool.false_ne_true, gr_163_0 hs, Option.bind_some, cv_164 hs, c_isNumber hs hg h.2.2.1, b2_some]
    by_cases e2 : t.2.2 = 3
    · have ht9 : t.1 < 900 := by have := hg.1.2.2.2.2 (by omega); have := hg.1.2.1; have := h.2.1.1; omega
      obtain ⟨I1, q1, q2, q3⟩ := c_emit (L := L) (n := n) hs h (by omega) (nmV B.1 t)
      obtain ⟨I2, r1, r2, r3⟩ := c_adv (L := L) (n := n) hs q2 hg
      rw [decide_eq_true e2, if_neg (show ¬ b2i true = 0 by decide), if_pos e2, gr_163_0 hs, Option.bind_some, cv_164 hs, c_tnum hs h.2.1 hg h.2.2.1 e2, b2_some, cv_163 hs, q1, Option.bind_some, gr_163_0 hs, Option.bind_some, cv_164 hs, r1, Option.bind_some, rZ_1]
      exact ⟨I2, 1, rfl, ⟨rfl, r2⟩, q3.tr r3.q⟩
    · rw [decide_eq_false e2, if_pos (show b2i false = 0 from rfl), if_neg e2, gi_163_12 hs, Option.bind_some, h.2.2.2.1.1, cv_163 hs, cv_163 hs]
      have hv := c_var (L := L) (n := n) hs hw h hg
      have e3 : (nI w = 1) = (w = 1) := propext (nI_eq (b := 1) (by omega) (by omega))
      have hv2 : (if w = 1 then mm_b2 (F_X7_variableOfLikes (some 163) (mk S I L R n)) (fun v84 h84 => F_X7_readAtom_94 p (some 163) v84 h84) else mm_b2 (F_X7_variableOfCalls (some 163) (mk S I L R n)) (fun v91 h91 => F_X7_readAtom_94 p (some 163) v91 h91)) = F_X7_readAtom_94 p (some 163) (match vrB B.1 w t with
        | some v => nI v
        | none => -1) (mk S I L R n) := by
        by_cases e4 : w = 1
        · rw [if_pos e4] at hv ⊢
          rw [hv, b2_some]
          cases vrB B.1 w t <;> rfl
        · rw [if_neg e4] at hv ⊢
          rw [hv, b2_some]
          cases vrB B.1 w t <;> rfl
      simp only [e3]
      rw [hv2]
      unfold F_X7_readAtom_94
      cases e5 : vrB B.1 w t with
      | none =>
        obtain ⟨I1, q1, q2, q3⟩ := c_refuse (L := L) (n := n) hs h hg hl9 2
        show ∃ I' v, (if (-1 : Int32) = -1 then _ else _) = _ ∧ _
        rw [if_pos rfl, cv_163 hs, show F_X7_refuse (some 163) 2 (mk S I L R n) = _ from q1, b2_some, rZ_0]
        exact ⟨I1, 0, rfl, ⟨rfl, q2⟩, q3⟩
      | some v =>
        obtain ⟨k1, k2⟩ := vrB_k e5
        have kv : v < 6 := by have : mwV w ≤ 6 := by unfold mwV; split <;> (try split) <;> omega
                              omega
        have ht9 : t.1 < 900 := by have := hg.1.2.2.2.2 (by omega); have := hg.1.2.1; have := h.2.1.1; omega
        obtain ⟨I1, q1, q2, q3⟩ := c_emit (L := L) (n := n) hs h (by omega) (1000 + v)
        obtain ⟨I2, r1, r2, r3⟩ := c_adv (L := L) (n := n) hs q2 hg
        show ∃ I' v', (if nI v = -1 then _ else _) = _ ∧ _
        rw [if_neg (nI_nm1 (by omega)), cv_163 hs, show (1000 : Int32) + nI v = nI (1000 + v) from nI_add 1000 v, q1, Option.bind_some, gr_163_0 hs, Option.bind_some, cv_164 hs, r1, Option.bind_some, rZ_1]
        exact ⟨I2, 1, rfl, ⟨rfl, r2⟩, q3.tr r3.q⟩
theorem c_mulL (hs : St S R) {p : PT_X7_readAtom} {d : Nat} {sub : TKN → LR} {c : Nat} (ha : CSp Ls xs S L R n B w (fun h => p.1 (some 163) (nI d) h) (atomP B w sub)) (hao : ∀ t, TKg B.1 B.2 t → RGo B w false c t.1 (atomP B w sub t)) (l0 : List Nat) : ∀ (r g i : Nat) (t : TKN) (l : List Nat) (I : mkI), i + r = 900 → r < g → PsC (Ls, xs, S, R) B w t (l0 ++ l) I → TKg B.1 B.2 t → l0.length + l.length ≤ t.1 → ∃ I' v, F_X7_readTerm_8 p g (some 163) (nI d) 1 (nI i) (mk S I L R n) = some (v, mk S I' L R n) ∧ CO (Ls, xs, S, R) B w l0 (mulL B w sub r t l) v I' ∧ kQ I I' := by
  intro r
  induction r with
  | zero =>
    intro g i t l I hi hg' h hg hlt
    obtain ⟨g, rfl⟩ : ∃ y, g = y + 1 := ⟨g - 1, by omega⟩
    simp only [F_X7_readTerm_8, F_X7_readTerm_57]
    rw [if_pos (show (900 : Int32) ≤ nI i from nI_le (a := 900) (by omega) (by omega)), rZ_1]
    exact ⟨I, 1, rfl, ⟨rfl, h⟩, kQ.rf⟩
  | succ r ih =>
    intro g i t l I hi hg' h hg hlt
    obtain ⟨g, rfl⟩ : ∃ y, g = y + 1 := ⟨g - 1, by omega⟩
    rw [mulL]
    simp only [F_X7_readTerm_8, F_X7_readTerm_57]
    rw [if_neg (show ¬ (900 : Int32) ≤ nI i from nI_ge (b := 900) (by omega) (by omega)), if_neg (by decide), gr_163_0 hs, Option.bind_some, cv_164 hs, show F_X9_isSign (some 164) (42 : Int32) (mk S I L R n) = _ from c_isSign hs (c := 42) h.2.1 hg h.2.2.1 (by decide), b2_some]
    cases e1 : sgB B.1 t 42 with
    | false =>
      rw [if_pos (show b2i false = 0 from rfl), if_neg Bool.false_ne_true, rZ_1]
      exact ⟨I, 1, rfl, ⟨rfl, h⟩, kQ.rf⟩
    | true =>
      obtain ⟨I1, q1, q2, q3⟩ := c_adv (L := L) (n := n) hs h hg
      have hn := nx_g hg
      have hn1 := nx_1 hg (sgB_k e1)
      obtain ⟨I2, v2, r1, r2, r3⟩ := ha (nx B t) (l0 ++ l) I1 q2 hn.1 (by rw [List.length_append]; omega)
      have r1' : p.1 (some 163) (nI d) (mk S I1 L R n) = some (v2, mk S I2 L R n) := r1
      have ro := hao _ hn.1
      rw [if_neg (show ¬ b2i true = 0 by decide), if_pos rfl, gr_163_0 hs, Option.bind_some, cv_164 hs, q1, Option.bind_some, cv_163 hs, r1', b2_some, cv_163 hs, nI_1]
      cases e3 : atomP B w sub (nx B t) with
      | inl e =>
        rw [e3] at r2
        obtain ⟨rfl, r2⟩ := r2
        obtain ⟨I3, s1, s2, s3⟩ := c_emitF (L := L) (n := n) hs r2 2002
        rw [s1, Option.bind_some]
        obtain ⟨g, rfl⟩ : ∃ y, g = y + 1 := ⟨g - 1, by omega⟩
        simp only [F_X7_readTerm_8, F_X7_readTerm_57]
        by_cases e4 : (900 : Int32) ≤ nI (i + 1)
        · rw [if_pos e4, rZ_0]; exact ⟨I3, 0, rfl, ⟨rfl, s2⟩, (q3.q.tr r3).tr s3⟩
        · rw [if_neg e4, if_pos trivial, rZ_0]; exact ⟨I3, 0, rfl, ⟨rfl, s2⟩, (q3.q.tr r3).tr s3⟩
      | inr pr =>
        obtain ⟨t', l'⟩ := pr
        rw [e3] at r2 ro
        obtain ⟨rfl, r2⟩ := r2
        have hN := r2.2.1.1
        have hb1 := ro.1.1.1
        have hb2 : (nx B t).1 + l'.length ≤ t'.1 := ro.2.1
        obtain ⟨I3, s1, s2, s3⟩ := c_emit (L := L) (n := n) hs r2 (by rw [List.length_append, List.length_append]; omega) 2002
        rw [show F_X7_emit (some 163) 2002 (mk S I2 L R n) = _ from s1, Option.bind_some]
        obtain ⟨I4, v4, u1, u2, u3⟩ := ih g (i + 1) t' (l ++ l' ++ [2002]) I3 (by omega) (by omega) (by rw [← List.append_assoc, ← List.append_assoc]; exact s2) ro.1 (by rw [List.length_append, List.length_append]; show l0.length + (l.length + l'.length + 1) ≤ t'.1; omega)
        exact ⟨I4, v4, u1, u2, ((q3.q.tr r3).tr s3).tr u3⟩
theorem c_termP (hs : St S R) {p : PT_X7_readAtom} {d : Nat} {sub : TKN → LR} {c : Nat} (ha : CSp Ls xs S L R n B w (fun h => p.1 (some 163) (nI d) h) (atomP B w sub)) (hao : ∀ t, TKg B.1 B.2 t → RGo B w false c t.1 (atomP B w sub t)) : CSp Ls xs S L R n B w (fun h => F_X7_readTerm p (some 163) (nI d) h) (termP B w sub) := by
  intro t l I h hg hlt
  obtain ⟨I2, v2, r1, r2, r3⟩ := ha t l I h hg hlt
  have r1' : p.1 (some 163) (nI d) (mk S I L R n) = some (v2, mk S I2 L R n) := r1
  have ro := hao _ hg
  show ∃ I' v, F_X7_readTerm p (some 163) (nI d) (mk S I L R n) = _ ∧ _
  unfold F_X7_readTerm termP
  rw [cv_163 hs, r1', b2_some]
  cases e3 : atomP B w sub t with
  | inl e =>
    rw [e3] at r2
    obtain ⟨rfl, r2⟩ := r2
    obtain ⟨g, eg⟩ : ∃ g, mm_N = g + 1 := ⟨mm_N - 1, by unfold mm_N; omega⟩
    rw [eg]
    simp only [F_X7_readTerm_8, F_X7_readTerm_57]
    rw [if_neg (by decide), if_pos trivial, rZ_0]
    exact ⟨I2, 0, rfl, ⟨rfl, r2⟩, r3⟩
  | inr pr =>
    obtain ⟨t', l'⟩ := pr
    rw [e3] at r2 ro
    obtain ⟨rfl, r2⟩ := r2
    have hb2 : t.1 + l'.length ≤ t'.1 := ro.2.1
    obtain ⟨I4, v4, u1, u2, u3⟩ := c_mulL (L := L) (n := n) hs ha hao l 900 mm_N 0 t' l' I2 rfl (by show 900 < 1000000; omega) r2 ro.1 (by omega)
    exact ⟨I4, v4, u1, u2, r3.tr u3⟩
end CS
