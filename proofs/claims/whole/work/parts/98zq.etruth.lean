/-! the reference reads truths -/
section EQ
variable {Ls : Nat} {xs : Nat → Int32} {S : mkS} {L : mkL} {R : mkR} {n : Nat × Nat} {B : BT} {d : Nat}
theorem e_andL (hs : St S R) {p : PT_X12_readBoth} {u : TKN → LR} {c : Nat} (ha : ESp Ls xs S L R n B 2 d (fun h => p.2.2 (some 197) h) (u)) (hao : ∀ t, TKg B.1 B.2 t → RGo B 2 true c t.1 (u t)) (l0 : List Nat) : ∀ (r g i : Nat) (t : TKN) (l : List Nat) (I : mkI), i + r = 900 → r + 1 < g → i ≤ t.1 → PsR (Ls, xs, S, R) B 2 d t (l0 ++ l) I → TKg B.1 B.2 t → l0.length + l.length ≤ t.1 → ∃ I', F_X12_readBoth_4 p g (some 197) (mk S I L R n) = some (mk S I' L R n) ∧ EO (Ls, xs, S, R) B 2 d l0 (andL B u r t l) I' ∧ kE 2 I I' := by
  intro r
  induction r with
  | zero =>
    intro g i t l I hi hg' hit h hg hlt
    obtain ⟨g, rfl⟩ : ∃ y, g = y + 1 := ⟨g - 1, by omega⟩
    have hN := h.2.1.1
    have e1 : wB B.1 t (wsOf 17) = false := by
      cases hh : wB B.1 t (wsOf 17) with
      | false => rfl
      | true =>
        have h1 := hg.1.2.2.2.2 (by have := wB_k hh; omega)
        have h2 := hg.1.2.1
        omega
    simp only [F_X12_readBoth_4]
    obtain ⟨I1, q1, q2, q3, q4⟩ := e_took (L := L) (n := n) hs h hg (a := 49) (by decide)
    rw [show wsOf 49 = wsOf 17 by decide +kernel, e1] at q1 q4
    rw [cv_197 hs, q1, b2_some, if_pos (show b2i false = 0 from rfl), q4 rfl]
    exact ⟨I, rfl, h, kE.rf⟩
  | succ r ih =>
    intro g i t l I hi hg' hit h hg hlt
    obtain ⟨g, rfl⟩ : ∃ y, g = y + 1 := ⟨g - 1, by omega⟩
    rw [andL]
    simp only [F_X12_readBoth_4]
    obtain ⟨I1, q1, q2, q3, q4⟩ := e_took (L := L) (n := n) hs h hg (a := 49) (by decide)
    rw [show wsOf 49 = wsOf 17 by decide +kernel] at q1 q2 q4
    rw [cv_197 hs, q1, b2_some]
    cases e1 : wB B.1 t (wsOf 17) with
    | false =>
      rw [if_pos (show b2i false = 0 from rfl), if_neg Bool.false_ne_true, q4 e1]
      exact ⟨I, rfl, h, kE.rf⟩
    | true =>
      rw [if_pos e1] at q2
      have hn := nx_g hg
      have hn1 := nx_1 hg (by have := wB_k e1; omega)
      obtain ⟨I2, r1, r2, r3⟩ := ha (nx B t) (l0 ++ l) I1 q2 hn.1 (by rw [List.length_append]; omega)
      have r1' : p.2.2 (some 197) (mk S I1 L R n) = some (mk S I2 L R n) := r1
      have ro := hao _ hn.1
      rw [if_neg (show ¬ b2i true = 0 by decide), if_pos rfl, cv_197 hs, r1', Option.bind_some, cv_197 hs]
      cases e3 : u (nx B t) with
      | inl e =>
        rw [e3] at r2
        have r2' : FlR e I2 := r2
        rw [e_laysF hs r2'.ne, Option.bind_some]
        obtain ⟨g, rfl⟩ : ∃ y, g = y + 1 := ⟨g - 1, by omega⟩
        simp only [F_X12_readBoth_4]
        rw [cv_197 hs, e_tookF hs r2'.ne, b2_some, if_pos (show (0 : Int32) = 0 from rfl)]
        exact ⟨I2, rfl, r2', q3.e.tr r3⟩
      | inr pr =>
        obtain ⟨t', l'⟩ := pr
        rw [e3] at r2 ro
        have r2' : PsR (Ls, xs, S, R) B 2 d t' (l0 ++ l ++ l') I2 := r2
        have hN := r2'.2.1.1
        have hb1 := ro.1.1.1
        have hb2 : (nx B t).1 + l'.length ≤ t'.1 := ro.2.1
        have hb3 := ro.2.2.1
        obtain ⟨I3, s1, s2, s3⟩ := e_laysO (L := L) (n := n) hs (show 2 ≤ 2 by decide) r2' (by rw [List.length_append, List.length_append]; omega) 2006
        rw [show F_X12_laysStep (some 197) 16 (mk S I2 L R n) = _ from s1, Option.bind_some]
        obtain ⟨I4, u1, u2, u3⟩ := ih g (i + 1) t' (l ++ l' ++ [2006]) I3 (by omega) (by omega) (by omega) (by rw [← List.append_assoc, ← List.append_assoc]; exact s2) ro.1 (by rw [List.length_append, List.length_append]; show l0.length + (l.length + l'.length + 1) ≤ t'.1; omega)
        exact ⟨I4, u1, u2, ((q3.e.tr r3).tr s3).tr u3⟩
theorem e_bothG (hs : St S R) {p : PT_X12_readBoth} {u : TKN → LR} {c : Nat} (ha : ESp Ls xs S L R n B 2 d (fun h => p.2.2 (some 197) h) (u)) (hao : ∀ t, TKg B.1 B.2 t → RGo B 2 true c t.1 (u t)) : ESp Ls xs S L R n B 2 d (fun h => F_X12_readBoth p (some 197) h) (bothG B u) := by
  intro t l I h hg hlt
  obtain ⟨I2, r1, r2, r3⟩ := ha t l I h hg hlt
  have r1' : p.2.2 (some 197) (mk S I L R n) = some (mk S I2 L R n) := r1
  have ro := hao _ hg
  show ∃ I', F_X12_readBoth p (some 197) (mk S I L R n) = _ ∧ _
  unfold F_X12_readBoth bothG
  rw [cv_197 hs, r1', Option.bind_some]
  cases e3 : u t with
  | inl e =>
    rw [e3] at r2
    have r2' : FlR e I2 := r2
    obtain ⟨g, eg⟩ : ∃ g, mm_N = g + 1 := ⟨mm_N - 1, by unfold mm_N; omega⟩
    rw [eg]
    simp only [F_X12_readBoth_4]
    rw [cv_197 hs, e_tookF hs r2'.ne, b2_some, if_pos (show (0 : Int32) = 0 from rfl)]
    exact ⟨I2, rfl, r2', r3⟩
  | inr pr =>
    obtain ⟨t', l'⟩ := pr
    rw [e3] at r2 ro
    have hb2 : t.1 + l'.length ≤ t'.1 := ro.2.1
    obtain ⟨I4, u1, u2, u3⟩ := e_andL (L := L) (n := n) hs ha hao l 900 mm_N 0 t' l' I2 rfl (by show 900 + 1 < 1000000; omega) (Nat.zero_le _) r2 ro.1 (by omega)
    exact ⟨I4, u1, u2, r3.tr u3⟩
theorem e_orL (hs : St S R) {p : PT_X12_readBoth} {u : TKN → LR} {c : Nat} (ha : ESp Ls xs S L R n B 2 d (fun h => p.1 (some 197) h) (bothG B u)) (hao : ∀ t, TKg B.1 B.2 t → RGo B 2 true c t.1 (bothG B u t)) (l0 : List Nat) : ∀ (r g i : Nat) (t : TKN) (l : List Nat) (I : mkI), i + r = 900 → r + 1 < g → i ≤ t.1 → PsR (Ls, xs, S, R) B 2 d t (l0 ++ l) I → TKg B.1 B.2 t → l0.length + l.length ≤ t.1 → ∃ I', F_X12_readTruth_4 p g (some 197) (mk S I L R n) = some (mk S I' L R n) ∧ EO (Ls, xs, S, R) B 2 d l0 (orL B u r t l) I' ∧ kE 2 I I' := by
  intro r
  induction r with
  | zero =>
    intro g i t l I hi hg' hit h hg hlt
    obtain ⟨g, rfl⟩ : ∃ y, g = y + 1 := ⟨g - 1, by omega⟩
    have hN := h.2.1.1
    have e1 : wB B.1 t (wsOf 18) = false := by
      cases hh : wB B.1 t (wsOf 18) with
      | false => rfl
      | true =>
        have h1 := hg.1.2.2.2.2 (by have := wB_k hh; omega)
        have h2 := hg.1.2.1
        omega
    simp only [F_X12_readTruth_4]
    obtain ⟨I1, q1, q2, q3, q4⟩ := e_took (L := L) (n := n) hs h hg (a := 50) (by decide)
    rw [show wsOf 50 = wsOf 18 by decide +kernel, e1] at q1 q4
    rw [cv_197 hs, q1, b2_some, if_pos (show b2i false = 0 from rfl), q4 rfl]
    exact ⟨I, rfl, h, kE.rf⟩
  | succ r ih =>
    intro g i t l I hi hg' hit h hg hlt
    obtain ⟨g, rfl⟩ : ∃ y, g = y + 1 := ⟨g - 1, by omega⟩
    rw [orL]
    simp only [F_X12_readTruth_4]
    obtain ⟨I1, q1, q2, q3, q4⟩ := e_took (L := L) (n := n) hs h hg (a := 50) (by decide)
    rw [show wsOf 50 = wsOf 18 by decide +kernel] at q1 q2 q4
    rw [cv_197 hs, q1, b2_some]
    cases e1 : wB B.1 t (wsOf 18) with
    | false =>
      rw [if_pos (show b2i false = 0 from rfl), if_neg Bool.false_ne_true, q4 e1]
      exact ⟨I, rfl, h, kE.rf⟩
    | true =>
      rw [if_pos e1] at q2
      have hn := nx_g hg
      have hn1 := nx_1 hg (by have := wB_k e1; omega)
      obtain ⟨I2, r1, r2, r3⟩ := ha (nx B t) (l0 ++ l) I1 q2 hn.1 (by rw [List.length_append]; omega)
      have r1' : p.1 (some 197) (mk S I1 L R n) = some (mk S I2 L R n) := r1
      have ro := hao _ hn.1
      rw [if_neg (show ¬ b2i true = 0 by decide), if_pos rfl, cv_197 hs, r1', Option.bind_some, cv_197 hs]
      cases e3 : bothG B u (nx B t) with
      | inl e =>
        rw [e3] at r2
        have r2' : FlR e I2 := r2
        rw [e_laysF hs r2'.ne, Option.bind_some]
        obtain ⟨g, rfl⟩ : ∃ y, g = y + 1 := ⟨g - 1, by omega⟩
        simp only [F_X12_readTruth_4]
        rw [cv_197 hs, e_tookF hs r2'.ne, b2_some, if_pos (show (0 : Int32) = 0 from rfl)]
        exact ⟨I2, rfl, r2', q3.e.tr r3⟩
      | inr pr =>
        obtain ⟨t', l'⟩ := pr
        rw [e3] at r2 ro
        have r2' : PsR (Ls, xs, S, R) B 2 d t' (l0 ++ l ++ l') I2 := r2
        have hN := r2'.2.1.1
        have hb1 := ro.1.1.1
        have hb2 : (nx B t).1 + l'.length ≤ t'.1 := ro.2.1
        have hb3 := ro.2.2.1
        obtain ⟨I3, s1, s2, s3⟩ := e_laysO (L := L) (n := n) hs (show 2 ≤ 2 by decide) r2' (by rw [List.length_append, List.length_append]; omega) 2007
        rw [show F_X12_laysStep (some 197) 17 (mk S I2 L R n) = _ from s1, Option.bind_some]
        obtain ⟨I4, u1, u2, u3⟩ := ih g (i + 1) t' (l ++ l' ++ [2007]) I3 (by omega) (by omega) (by omega) (by rw [← List.append_assoc, ← List.append_assoc]; exact s2) ro.1 (by rw [List.length_append, List.length_append]; show l0.length + (l.length + l'.length + 1) ≤ t'.1; omega)
        exact ⟨I4, u1, u2, ((q3.e.tr r3).tr s3).tr u3⟩
theorem e_truthG (hs : St S R) {p : PT_X12_readBoth} {u : TKN → LR} {c : Nat} (ha : ESp Ls xs S L R n B 2 d (fun h => p.1 (some 197) h) (bothG B u)) (hao : ∀ t, TKg B.1 B.2 t → RGo B 2 true c t.1 (bothG B u t)) : ESp Ls xs S L R n B 2 d (fun h => F_X12_readTruth p (some 197) h) (truthG B u) := by
  intro t l I h hg hlt
  obtain ⟨I2, r1, r2, r3⟩ := ha t l I h hg hlt
  have r1' : p.1 (some 197) (mk S I L R n) = some (mk S I2 L R n) := r1
  have ro := hao _ hg
  show ∃ I', F_X12_readTruth p (some 197) (mk S I L R n) = _ ∧ _
  unfold F_X12_readTruth truthG
  rw [cv_197 hs, r1', Option.bind_some]
  cases e3 : bothG B u t with
  | inl e =>
    rw [e3] at r2
    have r2' : FlR e I2 := r2
    obtain ⟨g, eg⟩ : ∃ g, mm_N = g + 1 := ⟨mm_N - 1, by unfold mm_N; omega⟩
    rw [eg]
    simp only [F_X12_readTruth_4]
    rw [cv_197 hs, e_tookF hs r2'.ne, b2_some, if_pos (show (0 : Int32) = 0 from rfl)]
    exact ⟨I2, rfl, r2', r3⟩
  | inr pr =>
    obtain ⟨t', l'⟩ := pr
    rw [e3] at r2 ro
    have hb2 : t.1 + l'.length ≤ t'.1 := ro.2.1
    obtain ⟨I4, u1, u2, u3⟩ := e_orL (L := L) (n := n) hs ha hao l 900 mm_N 0 t' l' I2 rfl (by show 900 + 1 < 1000000; omega) (Nat.zero_le _) r2 ro.1 (by omega)
    exact ⟨I4, u1, u2, r3.tr u3⟩
end EQ
