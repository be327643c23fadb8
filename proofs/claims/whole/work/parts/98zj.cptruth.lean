/-! the class reads truths -/
section CTR
variable {Ls : Nat} {xs : Nat → Int32} {S : mkS} {L : mkL} {R : mkR} {n : Nat × Nat} {B : BT}
theorem c_andL (hs : St S R) {p : PT_X7_readBoth} {d : Nat} {u : TKN → LR} {c : Nat} (ha : CSp Ls xs S L R n B 2 (fun h => p.2.2 (some 163) (nI d) h) (u)) (hao : ∀ t, TKg B.1 B.2 t → RGo B 2 true c t.1 (u t)) (l0 : List Nat) : ∀ (r g i : Nat) (t : TKN) (l : List Nat) (I : mkI), i + r = 900 → r < g → PsC (Ls, xs, S, R) B 2 t (l0 ++ l) I → TKg B.1 B.2 t → l0.length + l.length ≤ t.1 → ∃ I' v, F_X7_readBoth_8 p g (some 163) (nI d) 1 (nI i) (mk S I L R n) = some (v, mk S I' L R n) ∧ CO (Ls, xs, S, R) B 2 l0 (andL B u r t l) v I' ∧ kQ I I' := by
  intro r
  induction r with
  | zero =>
    intro g i t l I hi hg' h hg hlt
    obtain ⟨g, rfl⟩ : ∃ y, g = y + 1 := ⟨g - 1, by omega⟩
    simp only [F_X7_readBoth_8, F_X7_readBoth_57]
    rw [if_pos (show (900 : Int32) ≤ nI i from nI_le (a := 900) (by omega) (by omega)), rZ_1]
    exact ⟨I, 1, rfl, ⟨rfl, h⟩, kQ.rf⟩
  | succ r ih =>
    intro g i t l I hi hg' h hg hlt
    obtain ⟨g, rfl⟩ : ∃ y, g = y + 1 := ⟨g - 1, by omega⟩
    rw [andL]
    simp only [F_X7_readBoth_8, F_X7_readBoth_57]
    rw [if_neg (show ¬ (900 : Int32) ≤ nI i from nI_ge (b := 900) (by omega) (by omega)), if_neg (by decide), gr_163_0 hs, Option.bind_some, cv_164 hs, show F_X9_isWord (some 164) (some 17) (mk S I L R n) = _ from c_word hs h hg (a := 17) (by decide), b2_some]
    cases e1 : wB B.1 t (wsOf 17) with
    | false =>
      rw [if_pos (show b2i false = 0 from rfl), if_neg Bool.false_ne_true, rZ_1]
      exact ⟨I, 1, rfl, ⟨rfl, h⟩, kQ.rf⟩
    | true =>
      obtain ⟨I1, q1, q2, q3⟩ := c_adv (L := L) (n := n) hs h hg
      have hn := nx_g hg
      have hn1 := nx_1 hg (by have := wB_k e1; omega)
      obtain ⟨I2, v2, r1, r2, r3⟩ := ha (nx B t) (l0 ++ l) I1 q2 hn.1 (by rw [List.length_append]; omega)
      have r1' : p.2.2 (some 163) (nI d) (mk S I1 L R n) = some (v2, mk S I2 L R n) := r1
      have ro := hao _ hn.1
      rw [if_neg (show ¬ b2i true = 0 by decide), if_pos rfl, gr_163_0 hs, Option.bind_some, cv_164 hs, q1, Option.bind_some, cv_163 hs, r1', b2_some, cv_163 hs, nI_1]
      cases e3 : u (nx B t) with
      | inl e =>
        rw [e3] at r2
        obtain ⟨rfl, r2⟩ := r2
        obtain ⟨I3, s1, s2, s3⟩ := c_emitF (L := L) (n := n) hs r2 2006
        rw [s1, Option.bind_some]
        obtain ⟨g, rfl⟩ : ∃ y, g = y + 1 := ⟨g - 1, by omega⟩
        simp only [F_X7_readBoth_8, F_X7_readBoth_57]
        by_cases e4 : (900 : Int32) ≤ nI (i + 1)
        · rw [if_pos e4, rZ_0]; exact ⟨I3, 0, rfl, ⟨rfl, s2⟩, (q3.q.tr r3).tr s3⟩
        · rw [if_neg e4, if_pos trivial, rZ_0]; exact ⟨I3, 0, rfl, ⟨rfl, s2⟩, (q3.q.tr r3).tr s3⟩
      | inr pr =>
        obtain ⟨t', l'⟩ := pr
        rw [e3] at r2 ro
        obtain ⟨rfl, r2⟩ := r2
        have hN := r2.2.1.1
        have hb1 := ro.1.1.1
        have hb2 : (nx B t).1 + l'.length ≤ t'.1 := ro.2.1
        obtain ⟨I3, s1, s2, s3⟩ := c_emit (L := L) (n := n) hs r2 (by rw [List.length_append, List.length_append]; omega) 2006
        rw [show F_X7_emit (some 163) 2006 (mk S I2 L R n) = _ from s1, Option.bind_some]
        obtain ⟨I4, v4, u1, u2, u3⟩ := ih g (i + 1) t' (l ++ l' ++ [2006]) I3 (by omega) (by omega) (by rw [← List.append_assoc, ← List.append_assoc]; exact s2) ro.1 (by rw [List.length_append, List.length_append]; show l0.length + (l.length + l'.length + 1) ≤ t'.1; omega)
        exact ⟨I4, v4, u1, u2, ((q3.q.tr r3).tr s3).tr u3⟩
theorem c_bothG (hs : St S R) {p : PT_X7_readBoth} {d : Nat} {u : TKN → LR} {c : Nat} (ha : CSp Ls xs S L R n B 2 (fun h => p.2.2 (some 163) (nI d) h) (u)) (hao : ∀ t, TKg B.1 B.2 t → RGo B 2 true c t.1 (u t)) : CSp Ls xs S L R n B 2 (fun h => F_X7_readBoth p (some 163) (nI d) h) (bothG B u) := by
  intro t l I h hg hlt
  obtain ⟨I2, v2, r1, r2, r3⟩ := ha t l I h hg hlt
  have r1' : p.2.2 (some 163) (nI d) (mk S I L R n) = some (v2, mk S I2 L R n) := r1
  have ro := hao _ hg
  show ∃ I' v, F_X7_readBoth p (some 163) (nI d) (mk S I L R n) = _ ∧ _
  unfold F_X7_readBoth bothG
  rw [cv_163 hs, r1', b2_some]
  cases e3 : u t with
  | inl e =>
    rw [e3] at r2
    obtain ⟨rfl, r2⟩ := r2
    obtain ⟨g, eg⟩ : ∃ g, mm_N = g + 1 := ⟨mm_N - 1, by unfold mm_N; omega⟩
    rw [eg]
    simp only [F_X7_readBoth_8, F_X7_readBoth_57]
    rw [if_neg (by decide), if_pos trivial, rZ_0]
    exact ⟨I2, 0, rfl, ⟨rfl, r2⟩, r3⟩
  | inr pr =>
    obtain ⟨t', l'⟩ := pr
    rw [e3] at r2 ro
    obtain ⟨rfl, r2⟩ := r2
    have hb2 : t.1 + l'.length ≤ t'.1 := ro.2.1
    obtain ⟨I4, v4, u1, u2, u3⟩ := c_andL (L := L) (n := n) hs ha hao l 900 mm_N 0 t' l' I2 rfl (by show 900 < 1000000; omega) r2 ro.1 (by omega)
    exact ⟨I4, v4, u1, u2, r3.tr u3⟩
theorem c_orL (hs : St S R) {p : PT_X7_readBoth} {d : Nat} {u : TKN → LR} {c : Nat} (ha : CSp Ls xs S L R n B 2 (fun h => p.1 (some 163) (nI d) h) (bothG B u)) (hao : ∀ t, TKg B.1 B.2 t → RGo B 2 true c t.1 (bothG B u t)) (l0 : List Nat) : ∀ (r g i : Nat) (t : TKN) (l : List Nat) (I : mkI), i + r = 900 → r < g → PsC (Ls, xs, S, R) B 2 t (l0 ++ l) I → TKg B.1 B.2 t → l0.length + l.length ≤ t.1 → ∃ I' v, F_X7_readTruth_8 p g (some 163) (nI d) 1 (nI i) (mk S I L R n) = some (v, mk S I' L R n) ∧ CO (Ls, xs, S, R) B 2 l0 (orL B u r t l) v I' ∧ kQ I I' := by
  intro r
  induction r with
  | zero =>
    intro g i t l I hi hg' h hg hlt
    obtain ⟨g, rfl⟩ : ∃ y, g = y + 1 := ⟨g - 1, by omega⟩
    simp only [F_X7_readTruth_8, F_X7_readTruth_57]
    rw [if_pos (show (900 : Int32) ≤ nI i from nI_le (a := 900) (by omega) (by omega)), rZ_1]
    exact ⟨I, 1, rfl, ⟨rfl, h⟩, kQ.rf⟩
  | succ r ih =>
    intro g i t l I hi hg' h hg hlt
    obtain ⟨g, rfl⟩ : ∃ y, g = y + 1 := ⟨g - 1, by omega⟩
    rw [orL]
    simp only [F_X7_readTruth_8, F_X7_readTruth_57]
    rw [if_neg (show ¬ (900 : Int32) ≤ nI i from nI_ge (b := 900) (by omega) (by omega)), if_neg (by decide), gr_163_0 hs, Option.bind_some, cv_164 hs, show F_X9_isWord (some 164) (some 18) (mk S I L R n) = _ from c_word hs h hg (a := 18) (by decide), b2_some]
    cases e1 : wB B.1 t (wsOf 18) with
    | false =>
      rw [if_pos (show b2i false = 0 from rfl), if_neg Bool.false_ne_true, rZ_1]
      exact ⟨I, 1, rfl, ⟨rfl, h⟩, kQ.rf⟩
    | true =>
      obtain ⟨I1, q1, q2, q3⟩ := c_adv (L := L) (n := n) hs h hg
      have hn := nx_g hg
      have hn1 := nx_1 hg (by have := wB_k e1; omega)
      obtain ⟨I2, v2, r1, r2, r3⟩ := ha (nx B t) (l0 ++ l) I1 q2 hn.1 (by rw [List.length_append]; omega)
      have r1' : p.1 (some 163) (nI d) (mk S I1 L R n) = some (v2, mk S I2 L R n) := r1
      have ro := hao _ hn.1
      rw [if_neg (show ¬ b2i true = 0 by decide), if_pos rfl, gr_163_0 hs, Option.bind_some, cv_164 hs, q1, Option.bind_some, cv_163 hs, r1', b2_some, cv_163 hs, nI_1]
      cases e3 : bothG B u (nx B t) with
      | inl e =>
        rw [e3] at r2
        obtain ⟨rfl, r2⟩ := r2
        obtain ⟨I3, s1, s2, s3⟩ := c_emitF (L := L) (n := n) hs r2 2007
        rw [s1, Option.bind_some]
        obtain ⟨g, rfl⟩ : ∃ y, g = y + 1 := ⟨g - 1, by omega⟩
        simp only [F_X7_readTruth_8, F_X7_readTruth_57]
        by_cases e4 : (900 : Int32) ≤ nI (i + 1)
        · rw [if_pos e4, rZ_0]; exact ⟨I3, 0, rfl, ⟨rfl, s2⟩, (q3.q.tr r3).tr s3⟩
        · rw [if_neg e4, if_pos trivial, rZ_0]; exact ⟨I3, 0, rfl, ⟨rfl, s2⟩, (q3.q.tr r3).tr s3⟩
      | inr pr =>
        obtain ⟨t', l'⟩ := pr
        rw [e3] at r2 ro
        obtain ⟨rfl, r2⟩ := r2
        have hN := r2.2.1.1
        have hb1 := ro.1.1.1
        have hb2 : (nx B t).1 + l'.length ≤ t'.1 := ro.2.1
        obtain ⟨I3, s1, s2, s3⟩ := c_emit (L := L) (n := n) hs r2 (by rw [List.length_append, List.length_append]; omega) 2007
        rw [show F_X7_emit (some 163) 2007 (mk S I2 L R n) = _ from s1, Option.bind_some]
        obtain ⟨I4, v4, u1, u2, u3⟩ := ih g (i + 1) t' (l ++ l' ++ [2007]) I3 (by omega) (by omega) (by rw [← List.append_assoc, ← List.append_assoc]; exact s2) ro.1 (by rw [List.length_append, List.length_append]; show l0.length + (l.length + l'.length + 1) ≤ t'.1; omega)
        exact ⟨I4, v4, u1, u2, ((q3.q.tr r3).tr s3).tr u3⟩
theorem c_truthG (hs : St S R) {p : PT_X7_readBoth} {d : Nat} {u : TKN → LR} {c : Nat} (ha : CSp Ls xs S L R n B 2 (fun h => p.1 (some 163) (nI d) h) (bothG B u)) (hao : ∀ t, TKg B.1 B.2 t → RGo B 2 true c t.1 (bothG B u t)) : CSp Ls xs S L R n B 2 (fun h => F_X7_readTruth p (some 163) (nI d) h) (truthG B u) := by
  intro t l I h hg hlt
  obtain ⟨I2, v2, r1, r2, r3⟩ := ha t l I h hg hlt
  have r1' : p.1 (some 163) (nI d) (mk S I L R n) = some (v2, mk S I2 L R n) := r1
  have ro := hao _ hg
  show ∃ I' v, F_X7_readTruth p (some 163) (nI d) (mk S I L R n) = _ ∧ _
  unfold F_X7_readTruth truthG
  rw [cv_163 hs, r1', b2_some]
  cases e3 : bothG B u t with
  | inl e =>
    rw [e3] at r2
    obtain ⟨rfl, r2⟩ := r2
    obtain ⟨g, eg⟩ : ∃ g, mm_N = g + 1 := ⟨mm_N - 1, by unfold mm_N; omega⟩
    rw [eg]
    simp only [F_X7_readTruth_8, F_X7_readTruth_57]
    rw [if_neg (by decide), if_pos trivial, rZ_0]
    exact ⟨I2, 0, rfl, ⟨rfl, r2⟩, r3⟩
  | inr pr =>
    obtain ⟨t', l'⟩ := pr
    rw [e3] at r2 ro
    obtain ⟨rfl, r2⟩ := r2
    have hb2 : t.1 + l'.length ≤ t'.1 := ro.2.1
    obtain ⟨I4, v4, u1, u2, u3⟩ := c_orL (L := L) (n := n) hs ha hao l 900 mm_N 0 t' l' I2 rfl (by show 900 < 1000000; omega) r2 ro.1 (by omega)
    exact ⟨I4, v4, u1, u2, r3.tr u3⟩
theorem c_rel (hs : St S R) {t : TKN} {l : List Nat} {I : mkI} (h : PsC (Ls, xs, S, R) B 2 t l I) (hg : TKg B.1 B.2 t) : F_X7_relation (some 163) (mk S I L R n) = some ((match relB B.1 t with
  | some v => nI v
  | none => -1), mk S I L R n) := by
  have W : ∀ {c : Nat}, c < 128 → F_X9_isSign (some 164) (nI c) (mk S I L R n) = some (b2i (sgB B.1 t c), mk S I L R n) := fun hc => c_isSign hs h.2.1 hg h.2.2.1 hc
  have w61 : F_X9_isSign (some 164) (61 : Int32) (mk S I L R n) = _ := W (c := 61) (by decide)
  have w60 : F_X9_isSign (some 164) (60 : Int32) (mk S I L R n) = _ := W (c := 60) (by decide)
  have w62 : F_X9_isSign (some 164) (62 : Int32) (mk S I L R n) = _ := W (c := 62) (by decide)
  unfold relB F_X7_relation F_X7_relation_51
  rw [gr_163_0 hs, Option.bind_some, cv_164 hs, w61, b2_some]
  cases sgB B.1 t 61 with
  | true => rfl
  | false =>
    rw [if_pos (show b2i false = 0 from rfl), gr_163_0 hs, Option.bind_some, cv_164 hs, w60, b2_some]
    cases sgB B.1 t 60 with
    | true => rfl
    | false =>
      rw [if_pos (show b2i false = 0 from rfl), gr_163_0 hs, Option.bind_some, cv_164 hs, w62, b2_some]
      cases sgB B.1 t 62 <;> rfl
theorem relB_k {tb : Nat → Nat} {t : TKN} {o : Nat} (h : relB tb t = some o) : t.2.2 ≠ 0 ∧ 2003 ≤ o ∧ o < 2006 := by
  unfold relB at h
  split at h
  · rename_i q; cases h; exact ⟨sgB_k q, by decide, by decide⟩
  · split at h
    · rename_i q; cases h; exact ⟨sgB_k q, by decide, by decide⟩
    · split at h
      · rename_i q; cases h; exact ⟨sgB_k q, by decide, by decide⟩
      · cases h
theorem c_unitG (hs : St S R) {p : PT_X7_readBoth} {d r : Nat} (hdr : d + r = 6) {u tr : TKN → LR} {c : Nat} (hu : d < 6 → CSp Ls xs S L R n B 2 (fun h => p.2.2 (some 163) (nI (d + 1)) h) u) (ht : d < 6 → CSp Ls xs S L R n B 2 (fun h => p.2.1 (some 163) (nI (d + 1)) h) tr) (hto : ∀ t, TKg B.1 B.2 t → RGo B 2 true c t.1 (tr t)) (huo : ∀ t, TKg B.1 B.2 t → RGo B 2 true c t.1 (u t)) : CSp Ls xs S L R n B 2 (fun h => F_X7_readUnit p (some 163) (nI d) h) (unitG B (if d < 6 then fun t => thn (u (nx B t)) (fun t' l => .inr (t', l ++ [2008])) else fun t => .inl (rf t 4)) (if d < 6 then par B 93 tr else fun t => .inl (rf t 4)) (sumP B 2 r)) := by
  intro t l I h hg hlt
  have hl9 := h.len hg hlt
  have sum := c_sumP (Ls := Ls) (xs := xs) (L := L) (n := n) (B := B) hs (w := 2) (by decide) r d 64 hdr (by omega)
  show ∃ I' v, F_X7_readUnit p (some 163) (nI d) (mk S I L R n) = _ ∧ _
  unfold F_X7_readUnit unitG
  rw [gr_163_0 hs, Option.bind_some, cv_164 hs, show F_X9_isWord (some 164) (some 10) (mk S I L R n) = _ from c_word hs h hg (a := 10) (by decide), b2_some]
  cases e1 : wB B.1 t (wsOf 10) with
  | true =>
    have hk : t.2.2 ≠ 0 := by have := wB_k e1; omega
    rw [if_neg (show ¬ b2i true = 0 by decide), if_pos rfl, cv_163 hs]
    obtain ⟨I1, v1, q1, q2, q3⟩ := c_goDeeper (L := L) (n := n) hs h hg hl9 (d := d) (by omega)
    rw [q1, b2_some]
    unfold F_X7_readUnit_34 F_X7_readUnit_35
    by_cases e2 : d < 6
    · rw [if_pos e2] at q2 ⊢
      obtain ⟨rfl, q2⟩ := q2
      have hn := nx_g hg
      have hn1 := nx_1 hg hk
      obtain ⟨I2, v2, r1, r2, r3⟩ := hu e2 (nx B t) l I1 q2 hn.1 (by omega)
      have r1' : p.2.2 (some 163) (nI d + 1) (mk S I1 L R n) = some (v2, mk S I2 L R n) := by rw [nI_1]; exact r1
      have ro := huo _ hn.1
      rw [if_neg (by decide), cv_163 hs, r1', b2_some]
      cases e3 : u (nx B t) with
      | inl e =>
        rw [e3] at r2
        obtain ⟨rfl, r2⟩ := r2
        obtain ⟨I3, s1, s2, s3⟩ := c_emitF (L := L) (n := n) hs r2 2008
        rw [if_pos rfl, cv_163 hs, s1, Option.bind_some, rZ_0]
        exact ⟨I3, 0, rfl, ⟨rfl, s2⟩, (q3.tr r3).tr s3⟩
      | inr pr =>
        obtain ⟨t', l'⟩ := pr
        rw [e3] at r2 ro
        obtain ⟨rfl, r2⟩ := r2
        have hN := r2.2.1.1
        have hb1 := ro.1.1.1
        have hb2 : (nx B t).1 + l'.length ≤ t'.1 := ro.2.1
        obtain ⟨I3, s1, s2, s3⟩ := c_emit (L := L) (n := n) hs r2 (by rw [List.length_append]; omega) 2008
        rw [if_neg (by decide), cv_163 hs, show F_X7_emit (some 163) 2008 (mk S I2 L R n) = _ from s1, Option.bind_some, rZ_1]
        exact ⟨I3, 1, rfl, ⟨rfl, by rw [← List.append_assoc]; exact s2⟩, (q3.tr r3).tr s3⟩
    · rw [if_neg e2] at q2 ⊢
      obtain ⟨rfl, q2⟩ := q2
      obtain ⟨I3, s1, s2, s3⟩ := c_emitF (L := L) (n := n) hs q2 2008
      rw [if_pos rfl, cv_163 hs, s1, Option.bind_some, rZ_0]
      exact ⟨I3, 0, rfl, ⟨rfl, s2⟩, q3.tr s3⟩
  | false =>
    rw [if_pos (show b2i false = 0 from rfl), if_neg Bool.false_ne_true, gr_163_0 hs, Option.bind_some, cv_164 hs, show F_X9_isSign (some 164) (91 : Int32) (mk S I L R n) = _ from c_isSign hs (c := 91) h.2.1 hg h.2.2.1 (by decide), b2_some]
    cases e1b : sgB B.1 t 91 with
    | true =>
      rw [if_neg (show ¬ b2i true = 0 by decide), if_pos rfl, cv_163 hs]
      obtain ⟨I1, v1, q1, q2, q3⟩ := c_goDeeper (L := L) (n := n) hs h hg hl9 (d := d) (by omega)
      rw [q1, b2_some]
      unfold F_X7_readUnit_88 F_X7_readUnit_89
      by_cases e2 : d < 6
      · rw [if_pos e2] at q2 ⊢
        obtain ⟨rfl, q2⟩ := q2
        have hn := nx_g hg
        have hn1 := nx_1 hg (sgB_k e1b)
        obtain ⟨I2, v2, r1, r2, r3⟩ := ht e2 (nx B t) l I1 q2 hn.1 (by omega)
        have r1' : p.2.1 (some 163) (nI d + 1) (mk S I1 L R n) = some (v2, mk S I2 L R n) := by rw [nI_1]; exact r1
        have ro := hto _ hn.1
        rw [if_neg (by decide), cv_163 hs, r1', b2_some]
        unfold par
        cases e3 : tr (nx B t) with
        | inl e =>
          rw [e3] at r2
          obtain ⟨rfl, r2⟩ := r2
          rw [if_pos rfl, rZ_0]
          exact ⟨I2, 0, rfl, ⟨rfl, r2⟩, q3.tr r3⟩
        | inr pr =>
          obtain ⟨t', l'⟩ := pr
          rw [e3] at r2 ro
          obtain ⟨rfl, r2⟩ := r2
          have hl2 : (l ++ l').length ≤ t'.1 := by rw [List.length_append]; have := ro.2.1; omega
          obtain ⟨I3, v3, s1, s2, s3⟩ := c_takeSign (L := L) (n := n) hs (c := 93) r2 ro.1 (r2.len ro.1 hl2) (by decide)
          rw [if_neg (by decide), cv_163 hs, show F_X7_takeSign (some 163) 93 (mk S I2 L R n) = _ from s1, b2_some]
          show ∃ I' v, _ ∧ CO _ B 2 l (if sgB B.1 t' 93 = true then .inr (nx B t', l') else .inl (rf t' 2)) v I' ∧ _
          by_cases e4 : sgB B.1 t' 93 = true
          · rw [if_pos e4] at s2 ⊢
            obtain ⟨rfl, s2⟩ := s2
            rw [if_neg (by decide), rZ_1]
            exact ⟨I3, 1, rfl, ⟨rfl, s2⟩, (q3.tr r3).tr s3⟩
          · rw [if_neg e4] at s2 ⊢
            obtain ⟨rfl, s2⟩ := s2
            rw [if_pos rfl, rZ_0]
            exact ⟨I3, 0, rfl, ⟨rfl, s2⟩, (q3.tr r3).tr s3⟩
      · rw [if_neg e2] at q2 ⊢
        obtain ⟨rfl, q2⟩ := q2
        rw [if_pos rfl, rZ_0]
        exact ⟨I1, 0, rfl, ⟨rfl, q2⟩, q3⟩
    | false =>
      obtain ⟨I1, v1, q1, q2, q3⟩ := sum t l I h hg hlt
      have q1' : (G_X7_readAtom 64).2.1 (some 163) (nI d) (mk S I L R n) = some (v1, mk S I1 L R n) := q1
      have qo := sumP_ok (B := B) (w := 2) r t hg
      rw [if_pos (show b2i false = 0 from rfl), if_neg Bool.false_ne_true, cv_163 hs, q1', b2_some]
      cases e2 : sumP B 2 r t with
      | inl e =>
        rw [e2] at q2
        obtain ⟨rfl, q2⟩ := q2
        rw [if_pos rfl, rZ_0]
        exact ⟨I1, 0, rfl, ⟨rfl, q2⟩, q3⟩
      | inr pr =>
        obtain ⟨t', l'⟩ := pr
        rw [e2] at q2 qo
        obtain ⟨rfl, q2⟩ := q2
        have hb2 : t.1 + l'.length ≤ t'.1 := qo.2.1
        rw [if_neg (by decide), cv_163 hs, c_rel hs q2 qo.1, b2_some]
        show ∃ I' v, _ ∧ CO _ B 2 l (match relB B.1 t' with
          | none => .inl (rf t' 2)
          | some o => thn (sumP B 2 r (nx B t')) (fun t'' l'' => .inr (t'', l' ++ l'' ++ [o]))) v I' ∧ _
        cases e3 : relB B.1 t' with
        | none =>
          obtain ⟨I2, r1, r2, r3⟩ := c_refuse (L := L) (n := n) hs q2 qo.1 (q2.len qo.1 (by rw [List.length_append]; omega)) 2
          show ∃ I' v, (if (-1 : Int32) = -1 then _ else _) = _ ∧ _
          rw [if_pos rfl, cv_163 hs, show F_X7_refuse (some 163) 2 (mk S I1 L R n) = _ from r1, b2_some, rZ_0]
          exact ⟨I2, 0, rfl, ⟨rfl, r2⟩, q3.tr r3⟩
        | some o =>
          obtain ⟨hk, ho1, ho2⟩ := relB_k e3
          obtain ⟨I2, r1, r2, r3⟩ := c_adv (L := L) (n := n) hs q2 qo.1
          have hn := nx_g qo.1
          have hn1 := nx_1 qo.1 hk
          obtain ⟨I3, v3, s1, s2, s3⟩ := sum (nx B t') (l ++ l') I2 r2 hn.1 (by rw [List.length_append]; omega)
          have s1' : (G_X7_readAtom 64).2.1 (some 163) (nI d) (mk S I2 L R n) = some (v3, mk S I3 L R n) := s1
          have so := sumP_ok (B := B) (w := 2) r (nx B t') hn.1
          show ∃ I' v, (if nI o = -1 then _ else _) = _ ∧ _
          rw [if_neg (nI_nm1 (by omega)), gr_163_0 hs, Option.bind_some, cv_164 hs, r1, Option.bind_some, cv_163 hs, s1', b2_some, cv_163 hs]
          cases e4 : sumP B 2 r (nx B t') with
          | inl e =>
            rw [e4] at s2
            obtain ⟨rfl, s2⟩ := s2
            obtain ⟨I4, u1, u2, u3⟩ := c_emitF (L := L) (n := n) hs s2 (nI o)
            rw [u1, Option.bind_some, rZ_0]
            exact ⟨I4, 0, rfl, ⟨rfl, u2⟩, ((q3.tr r3.q).tr s3).tr u3⟩
          | inr pr2 =>
            obtain ⟨t'', l''⟩ := pr2
            rw [e4] at s2 so
            obtain ⟨rfl, s2⟩ := s2
            have hN := s2.2.1.1
            have hb3 := so.1.1.1
            have hb4 : (nx B t').1 + l''.length ≤ t''.1 := so.2.1
            obtain ⟨I4, u1, u2, u3⟩ := c_emit (L := L) (n := n) hs s2 (by rw [List.length_append, List.length_append]; omega) o
            rw [u1, Option.bind_some, rZ_1]
            exact ⟨I4, 1, rfl, ⟨rfl, by rw [← List.append_assoc, ← List.append_assoc]; exact u2⟩, ((q3.tr r3.q).tr s3).tr u3⟩
end CTR
