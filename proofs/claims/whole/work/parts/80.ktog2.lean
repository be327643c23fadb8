/-! together, whole -/
theorem run_pre {P : PL} (hP : PlOK P) {frc : Nat → Int32} (hf : frcOK P frc) {C : Nat} {f : Nat → Int32} {F T A D : Nat → Nat} {M k n : Nat} (h : BI P C f F T A D M) (hk : k ≤ n) {d j : Nat} (hd : d ∈ evU f A C M k) (hj : j = 15 + 7 * d ∨ j = 16 + 7 * d ∨ j = 17 + 7 * d) : gRun P frc C (evU f A C M n) f j = gRun P frc C (evU f A C M k) f j := by
  have hC := h.1.1
  obtain ⟨z, rfl⟩ : ∃ z, n = k + z := ⟨n - k, by omega⟩
  have l1 : ∀ c ∈ evU f A C M k, c < C := fun c hc => (evU_mem.mp hc).1
  rw [evU_add, gRun_app]
  refine gRun_other hP hf (by omega) _ _ (BV.run hP hf _ _ h.1 l1) (fun c hc => (evU_mem.mp hc).1) (fun c hc => ?_)
  have h1 := (evU_mem.mp hc).2.2.1
  have h2 := (evU_mem.mp hd).2.2.2
  have : c ≠ d := fun q => by subst q; omega
  omega
theorem fin_row {P : PL} (hP : PlOK P) {frc : Nat → Int32} (hf : frcOK P frc) {C : Nat} {f : Nat → Int32} {F T A D : Nat → Nat} {M m : Nat} (h : BI P C f F T A D M) {l : List Nat} (hl : ∀ c ∈ l, c < C) (d : Nat) : fin_ C m (gRun P frc C l f) (11 + 7 * d) = f (11 + 7 * d) ∧ fin_ C m (gRun P frc C l f) (16 + 7 * d) = gRun P frc C l f (16 + 7 * d) := by
  refine ⟨?_, fin_ne (by omega) (fun e _ => by omega)⟩
  rw [fin_ne (by omega) (fun e _ => by omega), gRun_other hP hf (by omega) _ _ h.1 hl (fun c _ => by omega)]
theorem tg_cand {P : PL} (hP : PlOK P) {frc : Nat → Int32} (hf : frcOK P frc) {C : Nat} {f : Nat → Int32} {F T A D : Nat → Nat} {M : Nat} (h : BI P C f F T A D M) (hM : M + 1300 ≤ 300000) {a b c : Nat} (ha : a < 8) (hb : b < 8) (hc : c < C) (h1 : tgC f (fin_ C (M + 1200) (gRun P frc C (evU f A C M 1200) f)) (nI a) (nI b) c) : M ≤ A c ∧ A c ≤ M + 999 ∧ tgK P frc C f A M (nI a) (nI b) (A c - M) := by
  have hC := h.1.1
  obtain ⟨s0, hj⟩ := h1
  have l1 : ∀ c ∈ evU f A C M 1200, c < C := fun c hc => (evU_mem.mp hc).1
  obtain ⟨r1, r2⟩ := fin_row hP hf h (m := M + 1200) l1 c
  rw [r1, r2] at hj
  obtain ⟨y1, y2, y3, -⟩ := h.2.2.2.2.1 c hc s0
  refine ⟨y1, y2, ?_⟩
  have l2 : ∀ d ∈ evU f A C M (A c - M + 1), d < C := fun d hd => (evU_mem.mp hd).1
  have V2 := BV.run hP hf _ _ h.1 l2
  have hq : c ∈ evU f A C M (A c - M + 1) := evU_mem.mpr ⟨hc, s0, y1, by omega⟩
  have e16 := run_pre hP hf h (show A c - M + 1 ≤ 1200 by omega) hq (j := 16 + 7 * c) (.inr (.inl rfl))
  rw [e16] at hj
  obtain ⟨q1, q2⟩ := fin_row hP hf h (m := M + (A c - M) + 1) l2 c
  refine ⟨c, hc, ?_, by rw [q1, q2]; exact hj⟩
  obtain ⟨-, -, -, -, -, hD, -⟩ := h.1.2.2 c hc
  rw [fin_st2 V2 hc (by omega)]
  rcases gRun_at hP hf _ f c h.1 l2 evU_nodup hq with ⟨-, -, a3, -⟩ | ⟨-, a2, -⟩
  · exfalso
    rw [a3, y3] at hj
    rcases hj with hj | hj
    · exact nI_nm1 (by omega) hj.2.symm
    · exact nI_nm1 (by omega) hj.2.symm
  · rw [a2, if_neg (fun w => by omega)]
theorem tg_back {P : PL} (hP : PlOK P) {frc : Nat → Int32} (hf : frcOK P frc) {C : Nat} {f : Nat → Int32} {F T A D : Nat → Nat} {M : Nat} (h : BI P C f F T A D M) (hM : M + 1300 ≤ 300000) {l m : Int32} (hn : ¬ tog C f l m) {k : Nat} (hk : k ≤ 1200) (hg : tgK P frc C f A M l m k) : ∃ c, c < C ∧ tgC f (fin_ C (M + 1200) (gRun P frc C (evU f A C M 1200) f)) l m c ∧ A c - M ≤ k := by
  have hC := h.1.1
  obtain ⟨c, hc, s, hj⟩ := hg
  have l2 : ∀ d ∈ evU f A C M (k + 1), d < C := fun d hd => (evU_mem.mp hd).1
  have l1 : ∀ c ∈ evU f A C M 1200, c < C := fun c hc => (evU_mem.mp hc).1
  have V2 := BV.run hP hf _ _ h.1 l2
  rw [fin_st2 V2 hc (by omega)] at s
  have s' : gRun P frc C (evU f A C M (k + 1)) f (15 + 7 * c) = 1 := by
    by_cases z : gRun P frc C (evU f A C M (k + 1)) f (15 + 7 * c) = 1 ∧ A c + D c < M + k + 1
    · exact z.1
    · rwa [if_neg z] at s
  obtain ⟨q1, q2⟩ := fin_row hP hf h (m := M + k + 1) l2 c
  rw [q1, q2] at hj
  by_cases hq : c ∈ evU f A C M (k + 1)
  · obtain ⟨-, z1, z2, z3⟩ := evU_mem.mp hq
    obtain ⟨y1, y2, -⟩ := h.2.2.2.2.1 c hc z1
    have hq2 : c ∈ evU f A C M 1200 := evU_mem.mpr ⟨hc, z1, y1, by omega⟩
    obtain ⟨r1, r2⟩ := fin_row hP hf h (m := M + 1200) l1 c
    refine ⟨c, hc, ⟨z1, ?_⟩, by omega⟩
    rw [r1, r2]
    have e : gRun P frc C (evU f A C M 1200) f (16 + 7 * c) = gRun P frc C (evU f A C M (k + 1)) f (16 + 7 * c) := by
      rcases Nat.le_total (k + 1) 1200 with w | w
      · exact run_pre hP hf h w hq (.inr (.inl rfl))
      · exact (run_pre hP hf h w hq2 (.inr (.inl rfl))).symm
    rw [e]; exact hj
  · exfalso
    have o := fun j (hj : j = 15 + 7 * c ∨ j = 16 + 7 * c) => gRun_other (j := j) hP hf (by omega) _ _ h.1 l2 (fun d hd => by have : d ≠ c := fun w => hq (w ▸ hd); omega)
    rw [o _ (.inl rfl)] at s'
    rw [o _ (.inr rfl)] at hj
    exact hn ⟨c, hc, s', hj⟩
theorem tog_congr {C : Nat} {f g : Nat → Int32} (hC : C ≤ 10) (h : ∀ j, j < 81 → g j = f j) (l m : Int32) : tog C g l m ↔ tog C f l m := by
  constructor
  · rintro ⟨c, hc, s, q⟩
    rw [h _ (by omega)] at s
    rw [h _ (by omega), h _ (by omega)] at q
    exact ⟨c, hc, s, q⟩
  · rintro ⟨c, hc, s, q⟩
    refine ⟨c, hc, by rw [h _ (by omega)]; exact s, ?_⟩
    rw [h _ (by omega), h _ (by omega)]
    exact q
theorem k_together (Ls : Nat) (xs : Nat → Int32) (a b : Int32) : Good Ls xs (F_L_together (some 128) a b (some 220)) (F_X12_together (some 197) a b) := by
  intro k S I L R n ⟨hl, tb, tn, fk, fp, w, tr, im, hC, hR, hG⟩
  obtain ⟨hs, hb, ⟨p, hpl, hp⟩, ⟨c1, c2⟩, hP, hRP, hRB⟩ := inv_all hC hR hG
  obtain ⟨-, g3, g4, F, T, A, D, M, hB, hM, hgo⟩ := hG.opn
  have w2 := hP.2.1
  have hB' : BI w.1 w.2.1.1 (I 174) F T A D M := hB.congr (fun j hj => x_cells hC hj)
  have hW : I 198 1 = nI (pW w.1) := hRP.2.1
  have eL := fun (L : mkL) (n : Nat × Nat) (a : Int32) => e_isLine2 (L := L) (n := n) hs (show pW w.1 ≤ 1000000 by omega) hW a
  have x33 : ∀ (t : Int32) (L : mkL) (n : Nat × Nat), ¬ t ≤ 0 → F_X12_together_33 (some 197) a b t (some 197) (mk S I L R n) = some (0, mk S (up2 I 197 4 t) L R n) := by
    intro t L n ht
    unfold F_X12_together_33
    rw [pi_197_4 hs, Option.bind_some, gi_197_4 hs, Option.bind_some, up2_self, if_neg ht]
  have hx : F_X11_together (some 128) a b (mk S I L R n) = if isL (pW w.1) a = true then (if isL (pW w.1) b = true then (if a = b then thr "java/lang/IllegalArgumentException" S I L R n else (mm_b2 (F_X0_speaksWith (some 170) a (mk S I L R n)) fun v31 h31 => if v31 = b then (some (.inr 0, h31)) else (mm_b2 (cV h31 (some 128) 11 (F_X11_foresee (some 128) 1200 h31)) fun v44 h44 => F_X11_together_53 mm_N (some 128) a b (-1) 0 h44))) else thr "java/util/NoSuchElementException" S I L R n) else thr "java/util/NoSuchElementException" S I L R n := by
    unfold F_X11_together
    rw [cv_128 hs, x_needLine hC, b3_if, b3_thr2, b3_some, cv_128 hs, x_needLine hC, b3_if, b3_thr2, b3_some, x_bd hC, Option.bind_some, bd_v hb, hC.thr]
    rfl
  by_cases h1 : isL (pW w.1) a = true
  · rw [if_pos h1] at hx
    by_cases h2 : isL (pW w.1) b = true
    · rw [if_pos h2] at hx
      by_cases h3 : a = b
      · rw [if_pos h3] at hx
        refine pk_thr (t := 2) (by decide) hl hC hR hG (L_together_2 hs hx) (v := 0) ?_
        unfold F_X12_together
        rw [cv_197 hs, eL, b2_some, h1, if_neg (by decide), cv_197 hs, eL, b2_some, h2, if_neg (by decide), if_pos h3, x33 _ _ _ (by decide)]
      · rw [if_neg h3] at hx
        obtain ⟨i, hi, rfl⟩ := (isL_iff (show pW w.1 < 2147483648 by omega)).mp h1
        obtain ⟨j, hj, rfl⟩ := (isL_iff (show pW w.1 < 2147483648 by omega)).mp h2
        have hij : i ≠ j := fun q => h3 (by rw [q])
        have esp : F_X0_speaksWith (some 170) (nI i) (mk S I L R n) = some (spkL (I 174) (nI i) w.2.1.1 0, mk S I L R n) := c_speaksL hb c1 c2 (nI i) w.2.1.1 mm_N 0 (by omega) (by show w.2.1.1 < 1000000; omega)
        rw [esp, b2_some] at hx
        have est := spk_tog hB' (show i < 8 by omega) (show j < 8 by omega) hij
        by_cases ht : tog w.2.1.1 (I 174) (nI i) (nI j)
        · rw [if_pos (est.mpr ht)] at hx
          obtain ⟨t, t1, t2⟩ := e_areTog (L := up2 L 220 0 (Int32.toInt64 0)) (n := n) hs hB' (I := up2 I 197 4 0) (by rw [up2_ne _ _ _ (by decide)]; exact hRB) (show i < 8 by omega) (show j < 8 by omega) hij
          have ht' : t = true := t2.mpr ht
          refine pk_val hl hC hR hG (L_together_0 hs hs hx) (fun _ _ _ => rfl) (fun _ _ => rfl) ⟨rfl, rfl⟩ (I'' := up2 I 197 4 0) ?_ (up2_self _ _ _ _) scR.m4.fr scR.m4.inv
          unfold F_X12_together
          rw [cv_197 hs, eL, b2_some, h1, if_neg (by decide), cv_197 hs, eL, b2_some, h2, if_neg (by decide), if_neg h3]
          unfold F_X12_together_33
          rw [pi_197_4 hs, Option.bind_some, gi_197_4 hs, Option.bind_some, up2_self, if_pos (by decide), cv_197 hs, t1, b2_some, ht', if_neg (by decide)]
        · rw [if_neg (fun q => ht (est.mp q)), cv_128 hs] at hx
          obtain ⟨p, g1, I', R', e1, e2, e3, e4, e5, e6, e7, e8, kI⟩ := x_foresee hC hP hB' (q := 1200) (by omega)
          have hB1 := hB'.congr e2
          have kb : I' 174 = I 174 := kI _ (by unfold scr; decide) (hs.nst hC.1.2.1 (by decide) (by decide))
          have hb5 : BdS S R' 170 174 175 := by
            obtain ⟨z1, z2, z3, z4⟩ := hb
            exact ⟨z1, by rw [e1, up2_ne _ _ _ (by decide)]; exact z2, by rw [e1, up2_ne _ _ _ (by decide)]; exact z3, z4⟩
          have t1 : I' 182 1 = nI w.2.1.1 := by
            rw [e4]; exact (hB1.pass hP frc0_ok (n := 1200) (by omega)).1.2.1
          have hn1 : ¬ tog w.2.1.1 g1 (nI i) (nI j) := fun q => ht ((tog_congr c1 e2 _ _).mp q)
          have cnv : ∀ d, d < w.2.1.1 → (tgC (I' 174) (I' 182) (nI i) (nI j) d ↔ tgC g1 (fin_ w.2.1.1 (M + 1200) (gRun w.1 frc0 w.2.1.1 (evU g1 A w.2.1.1 M 1200) g1)) (nI i) (nI j) d) := fun d hd => by
            unfold tgC
            rw [kb, ← e2 _ (by omega), e4]
          have tc := fun d (hd : d < w.2.1.1) q => tg_cand hP frc0_ok hB1 (by omega) (show i < 8 by omega) (show j < 8 by omega) hd ((cnv d hd).mp q)
          obtain ⟨v, q1, q2⟩ := c_tgL (L := L) (n := n) e5 hb5 (M := M) (A := A) (l := nI i) (m := nI j) c1 (by rw [kb]; exact c2) t1 (by rw [kb]; exact hB'.2.1) (fun c hc => by rw [kb]; exact (hB'.1.2.2 c hc).2.2.2.1) (fun c hc q => (tc c hc q).1) w.2.1.1 mm_N 0 (-1) (by omega) (by show w.2.1.1 < 1000000; omega) (.inl ⟨rfl, fun d hd => by omega⟩)
          have hv : TGv (tgK w.1 frc0 w.2.1.1 g1 A M (nI i) (nI j)) v := by
            rcases q2 with ⟨y1, y2⟩ | ⟨z, -, y2, ⟨d, y3, y4, y5⟩, y6⟩
            · refine .inl ⟨y1, fun q hq hg => ?_⟩
              obtain ⟨c, z1, z2, -⟩ := tg_back hP frc0_ok hB1 (by omega) hn1 hq hg
              exact y2 c z1 ((cnv c z1).mpr z2)
            · obtain ⟨x1, x2, x3⟩ := tc d y3 y4
              rw [y5] at x3
              refine .inr ⟨z, by omega, y2, x3, fun q hq hg => ?_⟩
              obtain ⟨c, z1, z2, z3⟩ := tg_back hP frc0_ok hB1 (by omega) hn1 (by omega) hg
              have := y6 c z1 ((cnv c z1).mpr z2)
              omega
          have e3' : F_X11_foresee (some 128) (1200 : Int32) (mk S I L R n) = some (nI (gLost w.1 frc0 w.2.1.1 (evU g1 A w.2.1.1 M 1200) g1).length, mk S I' L R' n) := e3
          have q1' : F_X11_together_53 mm_N (some 128) (nI i) (nI j) (-1) 0 (mk S I' L R' n) = some (.inr v, mk S I' L R' n) := q1
          rw [e3', b2_some, q1'] at hx
          obtain ⟨r1, r2, r3, r4⟩ := q_ref hC hR kI e2 0
          obtain ⟨t, t1', t2⟩ := e_areTog (L := up2 L 220 0 v.toInt64) (n := n) e5 hB1 r3 (show i < 8 by omega) (show j < 8 by omega) hij
          have ht' : t = false := by
            cases t with
            | false => rfl
            | true => exact absurd (t2.mp rfl) hn1
          obtain ⟨I1, a1, a2, a3⟩ := e_aside (L := up2 L 220 0 v.toInt64) (n := n) e5 (up2 I' 197 4 0)
          have fr1 : ∀ i, i < 10 → I1 205 i = -1 := by rw [a2 _ (by decide)]; exact r4
          obtain ⟨I3, v', m1, mb, m2, m3⟩ := e_togL (L := up2 L 220 0 v.toInt64) (n := n) e5 hP hB1 a2 a3 (by rw [a2 _ (by decide)]; exact r2) (frc_ok0 fr1) (by omega) (show i < 8 by omega) (show j < 8 by omega) hij 1201 mm_N 0 false I1 (by omega) (by show 1201 < 1000000; omega) (MinS.zero hB1 (by omega) (by rw [a2 _ (by decide)]; exact r3)) (.inl ⟨rfl, fun j hj => by omega⟩)
          have hon : tgK w.1 (I1 205) w.2.1.1 g1 A M (nI i) (nI j) = tgK w.1 frc0 w.2.1.1 g1 A M (nI i) (nI j) := by
            funext q
            unfold tgK
            rw [(run_0 (P := w.1) (n := q + 1) (m := M) (f := g1) (A := A) fr1 c1 g1).1]
          rw [hon] at mb
          have := mb.one hv
          subst this
          have m1' : F_X12_together_65 mm_N (some 197) (nI i) (nI j) (-1) 0 (mk S I1 (up2 L 220 0 v'.toInt64) R' n) = some (v', mk S I3 (up2 L 220 0 v'.toInt64) R' n) := m1
          have sc : scQ I' I3 := scQ.m4.tr m2
          have kn : I' 198 = I 198 := (up2_ne (f := I') (a := 197) (b := 198) 4 0 (by decide)).symm.trans r1
          have eL' := fun (L : mkL) (a : Int32) => e_isLine2 (L := L) (n := n) (I := I') e5 (show pW w.1 ≤ 1000000 by omega) (by rw [kn]; exact hW) a
          refine pk_val hl hC hR hG (L_together_0 hs e5 hx) kI (fun x q => by rw [e1, up2_ne _ _ _ q]) (by rw [e1, up2_row, up1_ne _ _ (by decide), up1_ne _ _ (by decide)]; exact ⟨rfl, rfl⟩) (I'' := I3) ?_ (by rw [m3 4 (by decide), up2_self]) sc.fr sc.inv
          unfold F_X12_together
          rw [cv_197 e5, eL', b2_some, h1, if_neg (by decide), cv_197 e5, eL', b2_some, h2, if_neg (by decide), if_neg h3]
          unfold F_X12_together_33
          rw [pi_197_4 e5, Option.bind_some, gi_197_4 e5, Option.bind_some, up2_self, if_pos (by decide), cv_197 e5, t1', b2_some, ht', if_pos (by decide), cv_197 e5, a1, Option.bind_some, m1']
    · rw [if_neg h2] at hx
      refine pk_thr (t := 1) (by decide) hl hC hR hG (L_together_1 hs hx) (v := 0) ?_
      unfold F_X12_together F_X12_together_19
      rw [cv_197 hs, eL, b2_some, h1, if_neg (by decide), cv_197 hs, eL, b2_some, if_pos (by rw [b2i_0]; simpa using h2), x33 _ _ _ (by decide)]
  · rw [if_neg h1] at hx
    refine pk_thr (t := 1) (by decide) hl hC hR hG (L_together_1 hs hx) (v := 0) ?_
    unfold F_X12_together F_X12_together_19
    rw [cv_197 hs, eL, b2_some, if_pos (by rw [b2i_0]; simpa using h1), x33 _ _ _ (by decide)]
