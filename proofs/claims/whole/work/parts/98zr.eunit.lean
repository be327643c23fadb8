/-! the reference reads truths, put together -/
section EU
variable {Ls : Nat} {xs : Nat → Int32} {S : mkS} {L : mkL} {R : mkR} {n : Nat × Nat} {B : BT} {d : Nat}
theorem e_relF (hs : St S R) {p : PT_X12_readBoth} {I : mkI} (hI : ¬ I 197 12 = 0) (v : Int32) : F_X12_readUnit_112 p (some 197) v (mk S I L R n) = some (mk S I L R n) := by
  unfold F_X12_readUnit_112 F_X12_readUnit_123 F_X12_readUnit_152 F_X12_readUnit_155
  rw [gi_197_12 hs, Option.bind_some, if_neg hI, cv_197 hs, show (G_X12_readAtom 64).2.1 (some 197) (mk S I L R n) = _ from e_sumF hs 64 (by omega) I hI, Option.bind_some, cv_197 hs, e_laysF hs hI, Option.bind_some, cv_197 hs, e_laysF hs hI, Option.bind_some, cv_197 hs, e_laysF hs hI, Option.bind_some, ite_self, ite_self]
theorem e_unitG (hs : St S R) {p : PT_X12_readBoth} {r : Nat} (hdr : d + r = 6) {u tr : TKN → LR} {c : Nat} (hbu : BadId S L R n (fun h => p.2.2 (some 197) h)) (hbt : BadId S L R n (fun h => p.2.1 (some 197) h)) (hu : d < 6 → ESp Ls xs S L R n B 2 (d + 1) (fun h => p.2.2 (some 197) h) u) (ht : d < 6 → ESp Ls xs S L R n B 2 (d + 1) (fun h => p.2.1 (some 197) h) tr) (hto : ∀ t, TKg B.1 B.2 t → RGo B 2 true c t.1 (tr t)) (huo : ∀ t, TKg B.1 B.2 t → RGo B 2 true c t.1 (u t)) : ESp Ls xs S L R n B 2 d (fun h => F_X12_readUnit p (some 197) h) (unitG B (if d < 6 then fun t => thn (u (nx B t)) (fun t' l => .inr (t', l ++ [2008])) else fun t => .inl (rf t 4)) (if d < 6 then par B 93 tr else fun t => .inl (rf t 4)) (sumP B 2 r)) := by
  intro t l I h hg hlt
  have hN := h.2.1.1
  have ht9 := hg.1.1
  have sum := e_sumP (Ls := Ls) (xs := xs) (L := L) (n := n) (B := B) hs (w := 2) (by decide) r d 64 hdr (by omega)
  show ∃ I', F_X12_readUnit p (some 197) (mk S I L R n) = _ ∧ _
  have w48 : F_X12_isWord (some 197) (some 48) (mk S I L R n) = some (b2i (wB B.1 t (wsOf 10)), mk S I L R n) := by
    rw [e_word hs h hg (a := 48) (by decide), show wsOf 48 = wsOf 10 by decide +kernel]
  unfold F_X12_readUnit unitG F_X12_readUnit_155
  rw [gi_197_12 hs, Option.bind_some, h.2.2.2.1, if_pos rfl, cv_197 hs, w48, b2_some]
  cases e1 : wB B.1 t (wsOf 10) with
  | true =>
    have hk : t.2.2 ≠ 0 := by have := wB_k e1; omega
    obtain ⟨I2, r1, r2, r3⟩ := e_goesIn (L := L) (n := n) hs h hg (show d ≤ 6 by omega)
    rw [if_neg (show ¬ b2i true = 0 by decide), if_pos rfl, cv_197 hs, r1, Option.bind_some, cv_197 hs]
    by_cases e2 : d < 6
    · rw [if_pos e2] at r2 ⊢
      have hn := nx_g hg
      have hn1 := nx_1 hg hk
      obtain ⟨I3, s1, s2, s3⟩ := hu e2 (nx B t) l I2 r2 hn.1 (by omega)
      have s1' : p.2.2 (some 197) (mk S I2 L R n) = some (mk S I3 L R n) := s1
      have ro := huo _ hn.1
      rw [s1', Option.bind_some, cv_197 hs]
      cases e3 : u (nx B t) with
      | inl e =>
        rw [e3] at s2
        have s2' : FlR e I3 := s2
        rw [e_laysF hs s2'.ne, Option.bind_some, gi_197_16 hs, Option.bind_some, pi_197_16 hs, Option.bind_some]
        exact ⟨_, rfl, s2'.deep _, (r3.tr s3).tr kE.deep⟩
      | inr pr =>
        obtain ⟨t', l'⟩ := pr
        rw [e3] at s2 ro
        have s2' : PsR (Ls, xs, S, R) B 2 (d + 1) t' (l ++ l') I3 := s2
        have hb1 := ro.1.1.1
        have hb2 : (nx B t).1 + l'.length ≤ t'.1 := ro.2.1
        obtain ⟨I4, u1, u2, u3⟩ := e_laysO (L := L) (n := n) hs (show 2 ≤ 2 by decide) s2' (by rw [List.length_append]; omega) 2008
        rw [show F_X12_laysStep (some 197) 18 (mk S I3 L R n) = _ from u1, Option.bind_some, gi_197_16 hs, Option.bind_some, pi_197_16 hs, Option.bind_some, u2.2.2.2.2.1, nI_sub1 (by omega), Nat.add_sub_cancel]
        refine ⟨_, rfl, ?_, ((r3.tr s3).tr u3).tr kE.deep⟩
        show PsR (Ls, xs, S, R) B 2 d t' (l ++ (l' ++ [2008])) _
        rw [← List.append_assoc]
        exact u2.deep d
    · rw [if_neg e2] at r2 ⊢
      have hb' : p.2.2 (some 197) (mk S I2 L R n) = some (mk S I2 L R n) := hbu I2 r2.ne
      rw [hb', Option.bind_some, cv_197 hs, e_laysF hs r2.ne, Option.bind_some, gi_197_16 hs, Option.bind_some, pi_197_16 hs, Option.bind_some]
      exact ⟨_, rfl, r2.deep _, r3.tr kE.deep⟩
  | false =>
    rw [if_pos (show b2i false = 0 from rfl), if_neg Bool.false_ne_true, cv_197 hs, show F_X12_isSign (some 197) 91 (mk S I L R n) = _ from e_sign hs h hg (c := 91) (by omega), b2_some]
    cases e1b : sgB B.1 t 91 with
    | true =>
      obtain ⟨I2, r1, r2, r3⟩ := e_goesIn (L := L) (n := n) hs h hg (show d ≤ 6 by omega)
      rw [if_neg (show ¬ b2i true = 0 by decide), if_pos rfl, cv_197 hs, r1, Option.bind_some, cv_197 hs]
      by_cases e2 : d < 6
      · rw [if_pos e2] at r2 ⊢
        have hn := nx_g hg
        have hn1 := nx_1 hg (sgB_k e1b)
        obtain ⟨I3, s1, s2, s3⟩ := ht e2 (nx B t) l I2 r2 hn.1 (by omega)
        have s1' : p.2.1 (some 197) (mk S I2 L R n) = some (mk S I3 L R n) := s1
        have ro := hto _ hn.1
        rw [s1', Option.bind_some, cv_197 hs]
        unfold par
        cases e3 : tr (nx B t) with
        | inl e =>
          rw [e3] at s2
          have s2' : FlR e I3 := s2
          rw [e_mustSignF hs s2'.ne, Option.bind_some, gi_197_16 hs, Option.bind_some, pi_197_16 hs, Option.bind_some]
          exact ⟨_, rfl, s2'.deep _, (r3.tr s3).tr kE.deep⟩
        | inr pr =>
          obtain ⟨t', l'⟩ := pr
          rw [e3] at s2 ro
          have s2' : PsR (Ls, xs, S, R) B 2 (d + 1) t' (l ++ l') I3 := s2
          obtain ⟨I4, u1, u2, u3⟩ := e_mustSign (L := L) (n := n) hs s2' ro.1 (c := 93) (by omega)
          rw [show F_X12_mustSign (some 197) 93 (mk S I3 L R n) = _ from u1, Option.bind_some, gi_197_16 hs, Option.bind_some, pi_197_16 hs, Option.bind_some]
          show ∃ I', _ ∧ EO _ B 2 d l (if sgB B.1 t' 93 = true then .inr (nx B t', l') else .inl (rf t' 2)) I' ∧ _
          by_cases e4 : sgB B.1 t' 93 = true
          · rw [if_pos e4] at u2 ⊢
            rw [u2.2.2.2.2.1, nI_sub1 (by omega), Nat.add_sub_cancel]
            exact ⟨_, rfl, u2.deep d, ((r3.tr s3).tr u3).tr kE.deep⟩
          · rw [if_neg e4] at u2 ⊢
            exact ⟨_, rfl, u2.deep _, ((r3.tr s3).tr u3).tr kE.deep⟩
      · rw [if_neg e2] at r2 ⊢
        have hb' : p.2.1 (some 197) (mk S I2 L R n) = some (mk S I2 L R n) := hbt I2 r2.ne
        rw [hb', Option.bind_some, cv_197 hs, e_mustSignF hs r2.ne, Option.bind_some, gi_197_16 hs, Option.bind_some, pi_197_16 hs, Option.bind_some]
        exact ⟨_, rfl, r2.deep _, r3.tr kE.deep⟩
    | false =>
      obtain ⟨I1, q1, q2, q3⟩ := sum t l I h hg hlt
      have q1' : (G_X12_readAtom 64).2.1 (some 197) (mk S I L R n) = some (mk S I1 L R n) := q1
      have qo := sumP_ok (B := B) (w := 2) r t hg
      rw [if_pos (show b2i false = 0 from rfl), if_neg Bool.false_ne_true, cv_197 hs, q1', Option.bind_some, gi_197_10 hs, Option.bind_some, cv_197 hs]
      cases e2 : sumP B 2 r t with
      | inl e =>
        rw [e2] at q2
        have q2' : FlR e I1 := q2
        rw [e_relF hs q2'.ne, e_blamesF hs q2'.ne, Option.bind_some, e_relF hs q2'.ne, ite_self, ite_self, ite_self]
        exact ⟨I1, rfl, q2', q3⟩
      | inr pr =>
        obtain ⟨t', l'⟩ := pr
        rw [e2] at q2 qo
        have q2' : PsR (Ls, xs, S, R) B 2 d t' (l ++ l') I1 := q2
        have hb2 : t.1 + l'.length ≤ t'.1 := qo.2.1
        obtain ⟨r1, -, -, -, -, r6⟩ := rtk_all qo.1
        have es : ∀ c : Nat, 40 ≤ c ∧ c < 128 → (sgB B.1 t' c = true ↔ nI (rtk B.1 t') = nI c) := fun c hc => by
          unfold sgB
          rw [Bool.and_eq_true, decide_eq_true_eq, decide_eq_true_eq, nI_eq (by omega) (by omega), r6 c hc.1]
        have go : ∀ (o v : Nat), relB B.1 t' = some o → nI (rtk B.1 t') = nI v → (o = 2003 ∧ v = 61 ∨ o = 2004 ∧ v = 60 ∨ o = 2005 ∧ v = 62) → ∃ I', F_X12_readUnit_112 p (some 197) (nI v) (mk S I1 L R n) = some (mk S I' L R n) ∧ EO (Ls, xs, S, R) B 2 d l (thn (sumP B 2 r (nx B t')) (fun t'' l'' => .inr (t'', l' ++ l'' ++ [o]))) I' ∧ kE 2 I I' := fun o v ho hv hov => by
          obtain ⟨hk, ho1, ho2⟩ := relB_k ho
          obtain ⟨I2, p1, p2, p3⟩ := e_adv (L := L) (n := n) hs q2' qo.1
          have hn := nx_g qo.1
          have hn1 := nx_1 qo.1 hk
          obtain ⟨I3, s1, s2, s3⟩ := sum (nx B t') (l ++ l') I2 p2 hn.1 (by rw [List.length_append]; omega)
          have s1' : (G_X12_readAtom 64).2.1 (some 197) (mk S I2 L R n) = some (mk S I3 L R n) := s1
          have so := sumP_ok (B := B) (w := 2) r (nx B t') hn.1
          unfold F_X12_readUnit_112 F_X12_readUnit_123
          rw [gi_197_12 hs, Option.bind_some, q2'.2.2.2.1, if_pos rfl, cv_197 hs, p1, Option.bind_some, cv_197 hs, s1', Option.bind_some]
          have sel : ∀ X : mkI, (if nI v = (61 : Int32) then F_X12_readUnit_152 p 13 (some 197) (mk S X L R n) else if nI v = (60 : Int32) then F_X12_readUnit_152 p 14 (some 197) (mk S X L R n) else F_X12_readUnit_152 p 15 (some 197) (mk S X L R n)) = F_X12_readUnit_152 p (nI (gam o)) (some 197) (mk S X L R n) := fun X => by
            rcases hov with ⟨rfl, rfl⟩ | ⟨rfl, rfl⟩ | ⟨rfl, rfl⟩
            · rw [if_pos (show nI 61 = 61 from rfl)]; rfl
            · rw [if_neg (show ¬ nI 60 = 61 by decide), if_pos (show nI 60 = 60 from rfl)]; rfl
            · rw [if_neg (show ¬ nI 62 = 61 by decide), if_neg (show ¬ nI 62 = 60 by decide)]; rfl
          rw [sel]
          unfold F_X12_readUnit_152 F_X12_readUnit_155
          rw [cv_197 hs]
          cases e4 : sumP B 2 r (nx B t') with
          | inl e =>
            rw [e4] at s2
            have s2' : FlR e I3 := s2
            rw [e_laysF hs s2'.ne, Option.bind_some]
            exact ⟨I3, rfl, s2', (q3.tr p3.e).tr s3⟩
          | inr pr2 =>
            obtain ⟨t'', l''⟩ := pr2
            rw [e4] at s2 so
            have s2' : PsR (Ls, xs, S, R) B 2 d t'' (l ++ l' ++ l'') I3 := s2
            have hb3 := so.1.1.1
            have hb4 : (nx B t').1 + l''.length ≤ t''.1 := so.2.1
            obtain ⟨I4, u1, u2, u3⟩ := e_laysO (L := L) (n := n) hs (show 2 ≤ 2 by decide) s2' (by rw [List.length_append, List.length_append]; omega) o
            rw [u1, Option.bind_some]
            refine ⟨I4, rfl, ?_, ((q3.tr p3.e).tr s3).tr u3⟩
            show PsR (Ls, xs, S, R) B 2 d t'' (l ++ (l' ++ l'' ++ [o])) I4
            rw [← List.append_assoc, ← List.append_assoc]
            exact u2
        rw [q2'.2.2.1.2.2.1]
        show ∃ I', _ ∧ EO _ B 2 d l (match relB B.1 t' with
          | none => .inl (rf t' 2)
          | some o => thn (sumP B 2 r (nx B t')) (fun t'' l'' => .inr (t'', l' ++ l'' ++ [o]))) I' ∧ _
        by_cases z1 : sgB B.1 t' 61 = true
        · have er : relB B.1 t' = some 2003 := by unfold relB; rw [if_pos z1]
          have ev := (es 61 (by omega)).mp z1
          have := go 2003 61 er ev (.inl ⟨rfl, rfl⟩)
          rw [if_pos (show nI (rtk B.1 t') = 61 from ev), ev, er]
          exact this
        · rw [if_neg (show ¬ nI (rtk B.1 t') = 61 from fun z => z1 ((es 61 (by omega)).mpr z))]
          by_cases z2 : sgB B.1 t' 60 = true
          · have er : relB B.1 t' = some 2004 := by unfold relB; rw [if_neg z1, if_pos z2]
            have ev := (es 60 (by omega)).mp z2
            have := go 2004 60 er ev (.inr (.inl ⟨rfl, rfl⟩))
            rw [if_pos (show nI (rtk B.1 t') = 60 from ev), ev, er]
            exact this
          · rw [if_neg (show ¬ nI (rtk B.1 t') = 60 from fun z => z2 ((es 60 (by omega)).mpr z))]
            by_cases z3 : sgB B.1 t' 62 = true
            · have er : relB B.1 t' = some 2005 := by unfold relB; rw [if_neg z1, if_neg z2, if_pos z3]
              have ev := (es 62 (by omega)).mp z3
              have := go 2005 62 er ev (.inr (.inr ⟨rfl, rfl⟩))
              rw [if_pos (show nI (rtk B.1 t') = 62 from ev), ev, er]
              exact this
            · have er : relB B.1 t' = none := by unfold relB; rw [if_neg z1, if_neg z2, if_neg z3]
              obtain ⟨I2, p1, p2, p3, -⟩ := e_blames (L := L) (n := n) hs q2' qo.1 (k := 2) (by omega)
              rw [if_neg (show ¬ nI (rtk B.1 t') = 62 from fun z => z3 ((es 62 (by omega)).mpr z)), er, show F_X12_blames (some 197) 2 (mk S I1 L R n) = _ from p1, Option.bind_some, e_relF hs p2.ne]
              exact ⟨I2, rfl, p2, q3.tr p3⟩
theorem e_unitF (hs : St S R) : ∀ g, 1 ≤ g → BadId S L R n (fun h => (G_X12_readBoth g).2.2 (some 197) h) := by
  intro g hg I hI
  obtain ⟨g, rfl⟩ : ∃ y, g = y + 1 := ⟨g - 1, by omega⟩
  show F_X12_readUnit (G_X12_readBoth g) (some 197) (mk S I L R n) = some (mk S I L R n)
  unfold F_X12_readUnit
  rw [gi_197_12 hs, Option.bind_some, if_neg hI]
theorem e_truthF (hs : St S R) : ∀ g, 3 ≤ g → BadId S L R n (fun h => (G_X12_readBoth g).2.1 (some 197) h) := by
  intro g hg I hI
  obtain ⟨g, rfl⟩ : ∃ y, g = y + 2 := ⟨g - 2, by omega⟩
  obtain ⟨k, ek⟩ : ∃ k, mm_N = k + 1 := ⟨mm_N - 1, by unfold mm_N; omega⟩
  have a2 : F_X12_readBoth (G_X12_readBoth g) (some 197) (mk S I L R n) = some (mk S I L R n) := by
    unfold F_X12_readBoth
    rw [cv_197 hs, show (G_X12_readBoth g).2.2 (some 197) (mk S I L R n) = _ from e_unitF hs g (by omega) I hI, Option.bind_some, ek]
    simp only [F_X12_readBoth_4]
    rw [cv_197 hs, e_tookF hs hI, b2_some, if_pos (show (0 : Int32) = 0 from rfl)]
  show F_X12_readTruth (G_X12_readBoth (g + 1)) (some 197) (mk S I L R n) = some (mk S I L R n)
  unfold F_X12_readTruth
  rw [cv_197 hs, show (G_X12_readBoth (g + 1)).1 (some 197) (mk S I L R n) = _ from a2, Option.bind_some, ek]
  simp only [F_X12_readTruth_4]
  rw [cv_197 hs, e_tookF hs hI, b2_some, if_pos (show (0 : Int32) = 0 from rfl)]
theorem e_truthOf (hs : St S R) {r g : Nat} (hu : ESp Ls xs S L R n B 2 d (fun h => (G_X12_readBoth g).2.2 (some 197) h) (unitP B r)) : ESp Ls xs S L R n B 2 d (fun h => (G_X12_readBoth (g + 2)).2.1 (some 197) h) (truthG B (unitP B r)) := by
  have h2 := e_bothG (L := L) (n := n) hs (p := G_X12_readBoth g) (d := d) hu (fun t ht => unitP_ok r t ht)
  exact e_truthG (L := L) (n := n) hs (p := G_X12_readBoth (g + 1)) (d := d) h2 (fun t ht => bothG_ok (unitP_ok r) ht)
theorem e_unitP (hs : St S R) : ∀ (r d g : Nat), d + r = 6 → 3 * r + 4 ≤ g → ESp Ls xs S L R n B 2 d (fun h => (G_X12_readBoth g).2.2 (some 197) h) (unitP B r) := by
  intro r
  induction r with
  | zero =>
    intro d g hd hg
    obtain ⟨g, rfl⟩ : ∃ y, g = y + 1 := ⟨g - 1, by omega⟩
    have h := e_unitG (Ls := Ls) (xs := xs) (L := L) (n := n) (B := B) hs (p := G_X12_readBoth g) (d := d) (r := 0) hd (u := unitP B 0) (tr := truthG B (unitP B 0)) (c := 5) (e_unitF hs g (by omega)) (e_truthF hs g (by omega)) (fun z => absurd z (by omega)) (fun z => absurd z (by omega)) (fun t ht => truthG_ok (unitP_ok 0) ht) (fun t ht => (unitP_ok 0 t ht).mono (by omega))
    rw [if_neg (by omega), if_neg (by omega)] at h
    exact h
  | succ r ih =>
    intro d g hd hg
    obtain ⟨g, rfl⟩ : ∃ y, g = y + 3 := ⟨g - 3, by omega⟩
    have h := e_unitG (Ls := Ls) (xs := xs) (L := L) (n := n) (B := B) hs (p := G_X12_readBoth (g + 2)) (d := d) (r := r + 1) hd (u := unitP B r) (tr := truthG B (unitP B r)) (c := 2 * r + 5) (e_unitF hs (g + 2) (by omega)) (e_truthF hs (g + 2) (by omega)) (fun z => ih (d + 1) (g + 2) (by omega) (by omega)) (fun z => e_truthOf hs (ih (d + 1) g (by omega) (by omega))) (fun t ht => truthG_ok (unitP_ok r) ht) (fun t ht => (unitP_ok r t ht).mono (by omega))
    rw [if_pos (by omega), if_pos (by omega)] at h
    exact h
end EU
