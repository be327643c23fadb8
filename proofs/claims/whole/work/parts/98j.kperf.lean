/-! perform, spring -/
abbrev TS : Type := WD × (Nat → Nat) × Nat
def aW (t : TS) (v : Int64) : Int32 := aWhy (pW t.1.1) t.1.2.1.1 t.1.2.1.2 v
def aTry (t : TS) (v : Int64) : TS := if aW t v = 0 then ((t.1.1, (aDo t.1.1 (t.1.2.1, t.2) v).1, keepU t.1.2.1 t.1.2.2), (aDo t.1.1 (t.1.2.1, t.2) v).2) else t
theorem aTry_P (t : TS) (v : Int64) : (aTry t v).1.1 = t.1.1 := by unfold aTry; split <;> rfl
/-- what holds along told deeds -/
def TOK (Mx : Nat) (t : TS) : Prop := WOK Mx t.1 ∧ GI t.1.1 (t.1.2.1, t.2) ∧ t.2.2 ≤ Mx
theorem TOK.try {Mx : Nat} {t : TS} (h : TOK Mx t) (hM : Mx ≤ 199999) (v : Int64) : TOK (Mx + 1) (aTry t v) := by
  obtain ⟨h1, h2, h3⟩ := h
  unfold aTry
  by_cases e : aW t v = 0
  · rw [if_pos e]
    obtain ⟨o1, o2, o3⟩ := aDo_ok h1.1 h2 (by show t.2.2 ≤ 200000; omega) (v := v) e
    have o2' : (aDo t.1.1 (t.1.2.1, t.2) v).2.2 ≤ t.2.2 + 1 := o2
    refine ⟨h1.push (Nat.le_succ Mx) ?_ o3, o1, by show (aDo t.1.1 (t.1.2.1, t.2) v).2.2 ≤ Mx + 1; omega⟩
    obtain ⟨F, T, D, hB⟩ := o1
    exact ⟨F, T, _, D, _, hB, by omega⟩
  · rw [if_neg e]
    exact ⟨h1.le (Nat.le_succ _), h2, by omega⟩
theorem TOK.le {Mx My : Nat} {t : TS} (h : TOK Mx t) (hM : Mx ≤ My) : TOK My t := ⟨h.1.le hM, h.2.1, Nat.le_trans h.2.2 hM⟩
def kB (S : mkS) (I I' : mkI) : Prop := ∀ x, ¬ scr x → x ≠ 174 → x ≠ 130 → x ≠ 131 → S (x - 2) ≠ (14, 0) → I' x = I x
theorem kB.rf {S : mkS} {I : mkI} : kB S I I := fun _ _ _ _ _ _ => rfl
theorem kB.tr {S : mkS} {I I' I'' : mkI} (h : kB S I I') (h2 : kB S I' I'') : kB S I I'' := fun x a b c d e => (h2 x a b c d e).trans (h x a b c d e)
/-- the board as its row says -/
def nrm (w : WD) (f : Nat → Int32) : WD := (w.1, (w.2.1.1, f), w.2.2)
section PF
variable {tb : Nat → Nat} {tn : Nat} {fk fp : Int32} {w : WD} {tr : TR} {im : IM} {k : Nat} {S : mkS} {I : mkI} {L : mkL} {R : mkR} {n : Nat × Nat}
theorem InvC.nrm (h : InvC tb tn fk fp w tr im k S I L R n) : InvC tb tn fk fp (nrm w (I 174)) tr im k S I L R n := by
  obtain ⟨a1, a2, a3, ⟨b1, b2, b3, b4, b5⟩, a5, a6, a7⟩ := h
  exact ⟨a1, a2, a3, ⟨b1, b2, fun _ _ => rfl, b4, b5⟩, a5, a6, a7⟩
theorem WOK.nrm {Mx : Nat} (h : WOK Mx w) {f : Nat → Int32} (hf : ∀ j, j < 81 → f j = w.2.1.2 j) : WOK Mx (nrm w f) := by
  obtain ⟨h1, h2, h3, h4⟩ := h
  refine ⟨h1, h2, fun u hu => ?_, ?_⟩
  · rcases List.mem_cons.mp hu with rfl | hu
    · obtain ⟨F, T, A, D, M, q, q2⟩ := h3 w.2.1 List.mem_cons_self
      exact ⟨F, T, A, D, M, q.congr hf, q2⟩
    · exact h3 u (List.mem_cons_of_mem _ hu)
  · have h5 := List.pairwise_cons.mp h4
    refine List.pairwise_cons.mpr ⟨fun v hv => ?_, h5.2⟩
    obtain ⟨s1, s2⟩ := h5.1 v hv
    obtain ⟨F, T, A, D, M, q, -⟩ := h3 v (List.mem_cons_of_mem _ hv)
    have c10 := q.1.1
    exact ⟨s1, fun c j hc hj => by
      show v.2 _ = f _
      rw [hf _ (by omega)]; exact s2 c j hc hj⟩
theorem RW.nrm {K : Nat → Int32} (h : RW w K) {f : Nat → Int32} (hf : ∀ j, j < 81 → f j = w.2.1.2 j) : RW (nrm w f) K := ⟨h.1, h.2.1.congr hf, h.2.2.1, h.2.2.2⟩
theorem x_try {t : TS} (hC : InvC tb tn fk fp t.1 tr im k S I L R n) {Mx : Nat} (hT : TOK Mx t) (hM : Mx ≤ 199999) (hI : I 174 = t.1.2.1.2) (v : Int64) : ∃ I', F_X11_tryTold (some 128) v (mk S I L R n) = some (b2i (decide (aW t v = 0)), mk S I' L R n) ∧ InvC tb tn fk fp (aTry t v).1 tr im k S I' L R n ∧ I' 174 = (aTry t v).1.2.1.2 ∧ kB S I I' := by
  have hs := hC.1.1
  have hw := hC.1.2.1
  obtain ⟨h1, h2, h3⟩ := hT
  have hP := h1.1
  obtain ⟨hb, ⟨p, hpl, hp⟩, -⟩ := id hC.2.2.2.1
  obtain ⟨F, T, D, hB⟩ := id h2
  have hwhy := c_whyTold (L := L) (n := n) hP hb hpl hp hB.1.1 (show I 174 1 = nI t.1.2.1.1 by rw [hI]; exact hB.1.2.1) v
  rw [hI] at hwhy
  unfold F_X11_tryTold aTry
  rw [x_bd hC, Option.bind_some, bd_v hb, hwhy, b2_some]
  by_cases e : aW t v = 0
  · obtain ⟨I1, e1, d1, k1⟩ := x_keep hC h1.2.1
    have b1 : I1 174 = I 174 := k1 _ (by decide) (by decide)
    have p1 : CPlan t.1.1 S R I1 p := hp.keep hw (fun x q q2 => k1 x (by unfold pa at q; show x ≠ 130; omega) (by unfold pa at q; show x ≠ 131; omega))
    obtain ⟨I2, q1, q2, q3⟩ := c_doTold (L := L) (n := n) hP hw hb (cos_b hs) npa_b hpl p1 (s := (t.1.2.1, t.2)) (by rw [b1]; exact hI) h2 (by show t.2.2 ≤ 200000; omega) (v := v) e
    have kI : kB S I I2 := fun x z1 z2 z3 z4 z5 => by
      rw [q3 x z2 (by unfold scr at z1; show x ≠ 175; omega) (by unfold scr at z1; omega) (by unfold scr at z1; omega) (by unfold scr at z1; omega) (by unfold scr at z1; omega) (by unfold scr at z1; omega) z5, k1 x z3 z4]
    have dN := d1.eq (q3 130 (by decide) (by decide) (by decide) (by decide) (by decide) (by decide) (by decide) (hs.nst hw (by decide) (by decide))) (q3 131 (by decide) (by decide) (by decide) (by decide) (by decide) (by decide) (by decide) (hs.nst hw (by decide) (by decide)))
    refine ⟨I2, ?_, ?_, ?_, kI⟩
    · rw [if_pos (show aWhy (pW t.1.1) t.1.2.1.1 t.1.2.1.2 v = 0 from e), x_dd hC, Option.bind_some, x_bd hC, Option.bind_some, mk_cV (by rw [hC.2.2.2.1.2.2.2.1.1]), e1, Option.bind_some, gr_128_5 hs, Option.bind_some, bd_v hb, q1, Option.bind_some, rZ_1, decide_eq_true e]
    · rw [if_pos e]
      exact hC.brd kI (x_CW hC kI (fun j _ => by rw [q2]) dN)
    · rw [if_pos e]; exact q2
  · refine ⟨I, ?_, by rw [if_neg e]; exact hC, by rw [if_neg e]; exact hI, kB.rf⟩
    rw [if_neg (show ¬ aWhy (pW t.1.1) t.1.2.1.1 t.1.2.1.2 v = 0 from e), rZ_0, decide_eq_false e]
/-- what the reference keeps along told deeds -/
def kT2 (I I' : mkI) : Prop := scW I I' ∧ (∀ j, j ≠ 22 → I' 197 j = I 197 j)
theorem kT2.rf {I : mkI} : kT2 I I := ⟨scW.rf, fun _ _ => rfl⟩
theorem kT2.nx {I I' I'' : mkI} (h : kT2 I I') (h2 : kT2 I' I'') : kT2 I I'' := ⟨h.1.tr h2.1, fun j q => (h2.2 j q).trans (h.2 j q)⟩
theorem kT2.ff {I I' : mkI} (h : kT2 I I') : I' 205 = I 205 := h.1.1 _ (by decide) (by decide) (by decide) (by decide) (by decide) (by decide)
theorem RTl.t2 {t ma : Nat} {nu : Nat → Int64} {I I' : mkI} (h : RTl t ma nu I L) (k : kT2 I I') : RTl t ma nu I' L := by
  obtain ⟨t1, t2, t3, t4, t5⟩ := h
  exact ⟨t1, t2, by rw [k.1.1 _ (by decide) (by decide) (by decide) (by decide) (by decide) (by decide)]; exact t3, by rw [k.1.1 _ (by decide) (by decide) (by decide) (by decide) (by decide) (by decide)]; exact t4, t5⟩
theorem e_step (hs : St S R) {t : TS} {Mx : Nat} (hT : TOK Mx t) (hM : Mx ≤ 199999) (hW : RW t.1 (I 198)) (hf : ∀ j, j < 10 → I 205 j = -1) {v : Int64} (e : aW t v = 0) : ∃ I1 I2, F_X12_keeps (some 197) (mk S I L R n) = some (mk S I1 L R n) ∧ F_X12_does (some 197) v.toInt32 (mk S I1 L R n) = some (mk S I2 L R n) ∧ RW (aTry t v).1 (I2 198) ∧ kT2 I I2 ∧ kT2 I I1 := by
  obtain ⟨h1, h2, h3⟩ := hT
  have hP := h1.1
  have g4 : ∀ u, u ∈ t.1.2.1 :: t.1.2.2 → u.1 ≤ 10 := fun u hu => by
    obtain ⟨F, T, A, D, M, q, -⟩ := h1.2.2.1 u hu
    exact q.1.1
  obtain ⟨I1, f1, f2, f3⟩ := e_keeps (L := L) (n := n) hs hP (I := I) (w := t.1) hW h1.2.1 (fun u hu => g4 u (List.mem_cons_of_mem _ hu))
  obtain ⟨I2, q1, q2, q3, q4, q5⟩ := e_does (L := L) (n := n) hs hP (I := I1) f3.1 (s := (t.1.2.1, t.2)) f3.2.1 (by rw [f2 _ (by decide)]; exact hf) h2 (by show t.2.2 ≤ 200000; omega) (v := v) e
  have kt1 : kT2 I I1 := ⟨scW.ofK f2, fun j _ => by rw [f2 _ (by decide)]⟩
  refine ⟨I1, I2, f1, q1, ?_, kt1.nx ⟨⟨fun a z1 z2 _ z4 z5 _ => q3 a z1 z2 z4 z5, fun j hj => q4 j (by omega)⟩, q4⟩, kt1⟩
  unfold aTry
  rw [if_pos e]
  exact f3.brd hP q2 (fun v hv => by
    have hv' : v ∈ t.1.2.1 :: t.1.2.2 := List.mem_of_mem_take hv
    exact g4 v hv') (by show (keepU t.1.2.1 t.1.2.2).length ≤ 10; rw [keepU_len h1.2.1]; omega) q5
def aPerf (nu : Nat → Int64) : Nat → Nat → TS → TS × Nat
  | 0, i, t => (t, i)
  | r + 1, i, t => if aW t (nu i) = 0 then aPerf nu r (i + 1) (aTry t (nu i)) else (t, i)
theorem aPerf_ok {nu : Nat → Int64} : ∀ (r i Mx : Nat) (t : TS), TOK Mx t → Mx + r ≤ 199999 → TOK (Mx + r) (aPerf nu r i t).1
  | 0, _, _, _, h, _ => h
  | r + 1, i, Mx, t, h, hM => by
    unfold aPerf
    split
    · have := aPerf_ok (nu := nu) r (i + 1) (Mx + 1) (aTry t (nu i)) (h.try (by omega) _) (by omega)
      rw [show Mx + 1 + r = Mx + (r + 1) by omega] at this; exact this
    · exact h.le (by omega)
theorem c_perfL {tt ma so : Nat} {nu : Nat → Int64} (ht : tt < 4) (hq : tr tt = some (so, ma, nu)) : ∀ (r g i Mx : Nat) (I : mkI) (t : TS), i + r = ma → r < g → InvC tb tn fk fp t.1 tr im k S I L R n → TOK Mx t → Mx + r ≤ 199999 → I 174 = t.1.2.1.2 → ∃ I', F_X11_perform_8 g (some 128) (some (189 + 2 * tt)) (nI i) (mk S I L R n) = some (.inr (nI (aPerf nu r i t).2), mk S I' L R n) ∧ InvC tb tn fk fp (aPerf nu r i t).1.1 tr im k S I' L R n ∧ kB S I I' := by
  intro r
  induction r with
  | zero =>
    intro g i Mx I t hi hg hC hT hM hI
    obtain ⟨g, rfl⟩ : ∃ y, g = y + 1 := ⟨g - 1, by omega⟩
    have hs := hC.1.1
    obtain ⟨hma, h2, hlr⟩ := x_tray hC ht hq
    refine ⟨I, ?_, hC, kB.rf⟩
    simp only [F_X11_perform_8]
    rw [tr_v hs ht, c_many hs ht hma h2, b2_some, if_pos (nI_le (by omega) (by omega)), tr_v hs ht, c_many hs ht hma h2, b2_some]
    have e9 : i = ma := by omega
    rw [← e9]; rfl
  | succ r ih =>
    intro g i Mx I t hi hg hC hT hM hI
    obtain ⟨g, rfl⟩ : ∃ y, g = y + 1 := ⟨g - 1, by omega⟩
    have hs := hC.1.1
    obtain ⟨hma, h2, hlr⟩ := x_tray hC ht hq
    obtain ⟨I1, q1, q2, q3, q4⟩ := x_try hC hT (by omega) hI (nu i)
    have head : F_X11_perform_8 (g + 1) (some 128) (some (189 + 2 * tt)) (nI i) (mk S I L R n) = if aW t (nu i) = 0 then F_X11_perform_8 g (some 128) (some (189 + 2 * tt)) (nI (i + 1)) (mk S I1 L R n) else some (.inr (nI i), mk S I1 L R n) := by
      simp only [F_X11_perform_8]
      rw [tr_v hs ht, c_many hs ht hma h2, b2_some, if_neg (nI_ge (by omega) (by omega)), tr_v hs ht, c_at hs ht hma h2 (by omega), b2_some, hlr i (by omega), cv_128 hs, q1, b2_some, nI_1]
      by_cases e : aW t (nu i) = 0
      · rw [decide_eq_true e, if_neg (by decide), if_pos e]
      · rw [decide_eq_false e, if_pos (by decide), if_neg e]
    rw [head, aPerf]
    by_cases e : aW t (nu i) = 0
    · rw [if_pos e, if_pos e]
      obtain ⟨I', z1, z2, z3⟩ := ih g (i + 1) (Mx + 1) I1 (aTry t (nu i)) (by omega) (by omega) q2 (hT.try (by omega) _) (by omega) q3
      exact ⟨I', z1, z2, q4.tr z3⟩
    · rw [if_neg e, if_neg e]
      refine ⟨I1, rfl, ?_, q4⟩
      unfold aTry at q2
      rw [if_neg e] at q2
      exact q2
theorem e_perfL (hs : St S R) {tt ma : Nat} {nu : Nat → Int64} : ∀ (r g i Mx : Nat) (I : mkI) (t : TS), i + r = ma → r < g → RTl tt ma nu I L → RW t.1 (I 198) → (∀ j, j < 10 → I 205 j = -1) → TOK Mx t → Mx + r ≤ 199999 → ∃ I', F_X12_perform_20 g (some 197) (nI tt) (nI i) (mk S I L R n) = some (nI (aPerf nu r i t).2, mk S I' L R n) ∧ RW (aPerf nu r i t).1.1 (I' 198) ∧ kT2 I I' := by
  intro r
  induction r with
  | zero =>
    intro g i Mx I t hi hg hTl hW hf hT hM
    obtain ⟨ht, hma, -, h4, h5⟩ := id hTl
    obtain ⟨g, rfl⟩ : ∃ y, g = y + 1 := ⟨g - 1, by omega⟩
    refine ⟨I, ?_, hW, kT2.rf⟩
    simp only [F_X12_perform_20, F_X12_perform_74]
    rw [gr_197_46 hs, Option.bind_some, ai_218 hs ht, Option.bind_some, h4, if_pos (nI_le (by omega) (by omega))]
    rfl
  | succ r ih =>
    intro g i Mx I t hi hg hTl hW hf hT hM
    obtain ⟨ht, hma, -, h4, h5⟩ := id hTl
    obtain ⟨g, rfl⟩ : ∃ y, g = y + 1 := ⟨g - 1, by omega⟩
    have e9 : (30 : Int32) * nI tt + nI i = nI (30 * tt + i) := by
      rw [show (30 : Int32) = nI 30 from rfl, nI_mul9, nI_add]
    have hwhy : F_X12_whyTold (some 197) (nu i) (mk S I L R n) = some (aW t (nu i), mk S I L R n) := e_whyTold hs hT.1.1 hW.1.2.1 hW.2.1 (nu i)
    rw [aPerf]
    by_cases e : aW t (nu i) = 0
    · obtain ⟨I1, I2, q1, q2, q3, q4, q5⟩ := e_step (L := L) (n := n) hs hT (by omega) hW hf e
      obtain ⟨I', z1, z2, z3⟩ := ih g (i + 1) (Mx + 1) I2 (aTry t (nu i)) (by omega) (by omega) (hTl.t2 q4) q3 (by rw [q4.ff]; exact hf) (hT.try (by omega) _) (by omega)
      refine ⟨I', ?_, by rw [if_pos e]; exact z2, q4.nx z3⟩
      rw [if_pos e]
      simp only [F_X12_perform_20, F_X12_perform_74]
      rw [gr_197_46 hs, Option.bind_some, ai_218 hs ht, Option.bind_some, h4, if_neg (nI_ge (by omega) (by omega)), gr_197_47 hs, Option.bind_some, e9, al_219 hs (by omega), Option.bind_some, h5 i (by omega), cv_197 hs, hwhy, b2_some, if_pos e, cv_197 hs, q1, Option.bind_some, gr_197_47 hs, Option.bind_some, al_219 hs (by omega), Option.bind_some, h5 i (by omega), cv_197 hs, q2, Option.bind_some, nI_1]
      exact z1
    · refine ⟨I, ?_, by rw [if_neg e]; exact hW, kT2.rf⟩
      rw [if_neg e]
      simp only [F_X12_perform_20, F_X12_perform_74]
      rw [gr_197_46 hs, Option.bind_some, ai_218 hs ht, Option.bind_some, h4, if_neg (nI_ge (by omega) (by omega)), gr_197_47 hs, Option.bind_some, e9, al_219 hs (by omega), Option.bind_some, h5 i (by omega), cv_197 hs, hwhy, b2_some, if_neg e]
end PF
/-- at the start of told deeds -/
theorem tok_start {k : Nat} {w : WD} {im : IM} {f : Nat → Int32} (hG : GOK (k + 1) w im) (hf : ∀ j, j < 81 → f j = w.2.1.2 j) : ∃ Mx A M, TOK Mx (nrm w f, A, M) ∧ Mx + 99 * (k + 1) ≤ 60000 ∧ ∀ i w', im i = some w' → WOK Mx w' := by
  obtain ⟨Mx, h1, h2, h9⟩ := hG
  obtain ⟨F, T, A, D, M, q, q2⟩ := h2.2.2.1 w.2.1 List.mem_cons_self
  exact ⟨Mx, A, M, ⟨h2.nrm hf, ⟨F, T, D, q.congr hf⟩, q2⟩, h1, h9⟩
theorem k_perform (Ls : Nat) (xs : Nat → Int32) (a : Int32) : Good Ls xs (F_L_perform (some 128) a (some 220)) (F_X12_perform (some 197) a) := by
  intro k S I L R n ⟨hl, tb, tn, fk, fp, w, tr, im, hC, hR, hG⟩
  have hs := hC.1.1
  have hw := hC.1.2.1
  have bad : ∀ (f : Int32) n', ¬ f ≤ 0 → F_X12_trayFault (some 197) a (mk S I L R n') = some (f, mk S I L R n') → F_X12_perform (some 197) a (mk S I L R n') = some (0, mk S (up2 I 197 4 f) L R n') := fun f n' hf h => by
    unfold F_X12_perform
    rw [cv_197 hs, h, b2_some, pi_197_4 hs, Option.bind_some, gi_197_4 hs, Option.bind_some, up2_self, if_neg hf]
  rcases x_told hC a with ⟨ha, ht⟩ | ⟨t, ht4, rfl, ⟨hn, ht⟩ | ⟨so, ma, nu, hq, ht⟩⟩
  · refine pk_thr (t := 1) (by decide) hl hC hR hG (L_perform_1 hs (S' := S) (I' := I) (L' := L) (R' := R) (n' := (n.1 + 1, n.2 + 6)) ?_) (bad 1 _ (by decide) (e_trayNo hs ha))
    unfold F_X11_perform; rw [cv_128 hs, ht, b3_thr2]; rfl
  · have hm := hR.2.2.2.1 t ht4
    rw [hn] at hm
    refine pk_thr (t := 2) (by decide) hl hC hR hG (L_perform_2 hs (S' := S) (I' := I) (L' := L) (R' := R) (n' := (n.1 + 1, n.2 + 6)) ?_) (bad 2 _ (by decide) (by rw [e_tray hs ht4, if_pos hm]))
    unfold F_X11_perform; rw [cv_128 hs, ht, b3_thr2]; rfl
  · have hT := tr_ref hR ht4 hq
    have hma := hT.2.1
    have hfb : ∀ j, j < 81 → I 174 j = w.2.1.2 j := fun j hj => x_cells hC hj
    obtain ⟨Mx, A, M, t1, t2, t3⟩ := tok_start hG hfb
    obtain ⟨t0, ht0⟩ : ∃ t0 : TS, t0 = (nrm w (I 174), A, M) := ⟨_, rfl⟩
    rw [← ht0] at t1
    have hC0 : InvC tb tn fk fp t0.1 tr im (k + 1) S I L R n := by rw [ht0]; exact hC.nrm
    obtain ⟨I1, x1, x2, x3⟩ := c_perfL ht4 hq ma mm_N 0 Mx I t0 (by omega) (by show ma < 1000000; omega) hC0 t1 (by omega) (by rw [ht0]; rfl)
    have tE := aPerf_ok (nu := nu) ma 0 Mx t0 t1 (by omega)
    obtain ⟨v, hv⟩ : ∃ v, v = nI (aPerf nu ma 0 t0).2 := ⟨_, rfl⟩
    have eK : ∀ a, 197 ≤ a → a ≤ 220 → I1 a = I a := fun a q1 q2 => x3 a (by unfold scr; omega) (by show a ≠ 174; omega) (by show a ≠ 130; omega) (by show a ≠ 131; omega) (hs.nst hw (by omega) q2)
    have hK1 : (up2 I1 197 4 0) 198 = I 198 := by rw [up2_ne _ _ _ (by decide)]; exact eK _ (by decide) (by decide)
    obtain ⟨L1, hL1⟩ : ∃ L1, L1 = up2 L 220 0 v.toInt64 := ⟨_, rfl⟩
    have hT1 : RTl t ma nu (up2 I1 197 4 0) L1 := by
      obtain ⟨q1, q2, q3, q4, q5⟩ := hT
      exact ⟨q1, q2, by rw [up2_ne _ _ _ (by decide), eK _ (by decide) (by decide)]; exact q3, by rw [up2_ne _ _ _ (by decide), eK _ (by decide) (by decide)]; exact q4, fun j hj => by rw [hL1, up2_ne _ _ _ (by decide)]; exact q5 j hj⟩
    obtain ⟨I2, y1, y2, y3⟩ := e_perfL (n := n) hs ma mm_N 0 Mx (up2 I1 197 4 0) t0 (by omega) (by show ma < 1000000; omega) hT1 (by rw [hK1, ht0]; exact hR.2.2.1.nrm hfb) (by rw [up2_ne _ _ _ (by decide), eK _ (by decide) (by decide)]; exact hR.2.2.2.2.2) t1 (by omega)
    refine pk_brd (v := v) (w' := (aPerf nu ma 0 t0).1.1) (I' := I1) (I'' := I2) hl hC hR ⟨Mx + ma, by omega, tE.1, fun i w' z => (t3 i w' z).le (by omega)⟩ (L_perform_0 hs hs ?_) x3 x2.2.2.2.1 ?_ (by rw [y3.2 4 (by decide), up2_self]) (scW.m4.tr y3.1) y2
    · unfold F_X11_perform
      rw [cv_128 hs, ht, b3_some, hv]
      exact x1
    · rw [← hL1]
      unfold F_X12_perform
      rw [cv_197 hs, e_tray hs ht4, eK _ (by decide) (by decide), if_neg hT.2.2.1, b2_some, pi_197_4 hs, Option.bind_some, gi_197_4 hs, Option.bind_some, up2_self, if_pos (by decide), hv]
      exact y1
/-! spring -/
def dr (x : Int32) : Int32 := (1103515245 : Int32) * x + 12345
def rm16 (x m : Int32) : Int32 := ((x.toUInt32 >>> ((16 : Int32).toUInt32 &&& Int32.toUInt32 31)).toInt32) - ((x.toUInt32 >>> ((16 : Int32).toUInt32 &&& Int32.toUInt32 31)).toInt32) / m * m
def drw (W x : Int32) : Int32 × Int32 := if rm16 (dr x) 5 = 2 then (dr (dr (dr x)), 10 * rm16 (dr (dr x)) W + rm16 (dr (dr (dr x))) W) else if rm16 (dr x) 5 = 3 then (dr (dr x), 100 + rm16 (dr (dr x)) W) else if rm16 (dr x) 5 = 4 then (dr (dr x), 200 + rm16 (dr (dr x)) 10) else (dr x, -1)
def aSpr (W : Int32) : Nat → Int32 → Nat → TS → TS × Nat
  | 0, _, c, t => (t, c)
  | r + 1, x, c, t => aSpr W r (drw W x).1 (if aW t (drw W x).2.toInt64 = 0 then c + 1 else c) (aTry t (drw W x).2.toInt64)
theorem rm16_5 (x : Int32) : ∃ j, j < 5 ∧ rm16 x 5 = nI j := by
  have h : (x.toUInt32 >>> ((16 : Int32).toUInt32 &&& Int32.toUInt32 31)).toNat < 65536 := by
    rw [show ((16 : Int32).toUInt32 &&& Int32.toUInt32 31) = 16 by decide, UInt32.toNat_shiftRight, show (16 : UInt32).toNat % 32 = 16 by decide, Nat.shiftRight_eq_div_pow]
    have := x.toUInt32.toNat_lt
    omega
  refine ⟨(x.toUInt32 >>> ((16 : Int32).toUInt32 &&& Int32.toUInt32 31)).toNat % 5, by omega, ?_⟩
  unfold rm16
  rw [← nI_u, show (5 : Int32) = nI 5 from rfl, pk_rem (by omega) (by omega) (by omega)]
theorem aSpr_ok {W : Int32} : ∀ (r : Nat) (x : Int32) (c Mx : Nat) (t : TS), TOK Mx t → Mx + r ≤ 199999 → TOK (Mx + r) (aSpr W r x c t).1
  | 0, _, _, _, _, h, _ => h
  | r + 1, x, c, Mx, t, h, hM => by
    unfold aSpr
    have := aSpr_ok (W := W) r (drw W x).1 (if aW t (drw W x).2.toInt64 = 0 then c + 1 else c) (Mx + 1) (aTry t (drw W x).2.toInt64) (h.try (by omega) _) (by omega)
    rw [show Mx + 1 + r = Mx + (r + 1) by omega] at this; exact this
section SPr
variable {tb : Nat → Nat} {tn : Nat} {fk fp : Int32} {tr : TR} {im : IM} {k : Nat} {S : mkS} {I : mkI} {L : mkL} {R : mkR} {n : Nat × Nat}
theorem c_among {W : Nat} (h1 : 1 ≤ W) (h2 : W < 2147483648) (x : Int32) (H : MH) : F_X11_among x (nI W) H = some (rm16 x (nI W), H) := by
  unfold F_X11_among F_X11_among_14 rm16
  rw [if_neg (show ¬ nI W ≤ 0 from ge_wide (b := 0) (by omega) h2), if_neg (show ¬ nI W = 0 from fun e => absurd ((nI_eq (b := 0) h2 (by omega)).mp e) (by omega))]
theorem c_sprL {W N : Nat} (hW : 1 ≤ W) (hW2 : W ≤ 8) (hN : N ≤ 30) : ∀ (r g i c Mx : Nat) (x : Int32) (I : mkI) (t : TS), i + r = N → r < g → c ≤ i → InvC tb tn fk fp t.1 tr im k S I L R n → TOK Mx t → Mx + r ≤ 199999 → I 174 = t.1.2.1.2 → ∃ I', F_X11_spring_27 g (some 128) (nI N) (nI W) x (nI c) (nI i) (mk S I L R n) = some (.inr (nI (aSpr (nI W) r x c t).2), mk S I' L R n) ∧ InvC tb tn fk fp (aSpr (nI W) r x c t).1.1 tr im k S I' L R n ∧ kB S I I' := by
  intro r
  induction r with
  | zero =>
    intro g i c Mx x I t hi hg hc hC hT hM hI
    obtain ⟨g, rfl⟩ : ∃ y, g = y + 1 := ⟨g - 1, by omega⟩
    refine ⟨I, ?_, hC, kB.rf⟩
    simp only [F_X11_spring_27]
    rw [if_pos (nI_le (by omega) (by omega))]
    rfl
  | succ r ih =>
    intro g i c Mx x I t hi hg hc hC hT hM hI
    obtain ⟨g, rfl⟩ : ∃ y, g = y + 1 := ⟨g - 1, by omega⟩
    have hs := hC.1.1
    obtain ⟨I1, q1, q2, q3, q4⟩ := x_try hC hT (by omega) hI (drw (nI W) x).2.toInt64
    obtain ⟨I', z1, z2, z3⟩ := ih g (i + 1) (if aW t (drw (nI W) x).2.toInt64 = 0 then c + 1 else c) (Mx + 1) (drw (nI W) x).1 I1 (aTry t (drw (nI W) x).2.toInt64) (by omega) (by omega) (by split <;> omega) q2 (hT.try (by omega) _) (by omega) q3
    refine ⟨I', ?_, z2, q4.tr z3⟩
    have h150 : F_X11_spring_150 (F_X11_spring_27 g) (some 128) (nI N) (nI W) (drw (nI W) x).1 (nI c) (nI i) (drw (nI W) x).2 (mk S I L R n) = some (.inr (nI (aSpr (nI W) (r + 1) x c t).2), mk S I' L R n) := by
      unfold F_X11_spring_150 F_X11_spring_163
      rw [cv_128 hs, q1, b2_some]
      by_cases e : aW t (drw (nI W) x).2.toInt64 = 0
      · rw [if_pos e] at z1
        rw [decide_eq_true e, if_neg (by decide), nI_1, nI_1, aSpr, if_pos e]; exact z1
      · rw [if_neg e] at z1
        rw [decide_eq_false e, if_pos (by decide), nI_1, aSpr, if_neg e]; exact z1
    simp only [F_X11_spring_27, F_X11_drawn]
    rw [if_neg (nI_ge (by omega) (by omega)), b2_some, b2_some]
    show (if rm16 (dr x) 5 = 2 then _ else _) = _
    unfold drw at h150
    by_cases e2 : rm16 (dr x) 5 = 2
    · rw [if_pos e2] at h150 ⊢
      rw [c_among hW (by omega), b2_some, b2_some, c_among hW (by omega), b2_some]
      exact h150
    · rw [if_neg e2] at h150 ⊢
      show (if rm16 (dr x) 5 = 3 then _ else _) = _
      by_cases e3 : rm16 (dr x) 5 = 3
      · rw [if_pos e3] at h150 ⊢
        rw [b2_some, c_among hW (by omega), b2_some]
        exact h150
      · rw [if_neg e3] at h150 ⊢
        show (if rm16 (dr x) 5 = 4 then _ else _) = _
        by_cases e4 : rm16 (dr x) 5 = 4
        · rw [if_pos e4] at h150 ⊢
          rw [b2_some, show (10 : Int32) = nI 10 from rfl, c_among (by omega) (by omega), b2_some]
          exact h150
        · rw [if_neg e4] at h150 ⊢
          exact h150
theorem e_draw (hs : St S R) {m : Int32} (hm : m ≠ 0) : F_X12_draw (some 197) m (mk S I L R n) = some (rm16 (dr (I 197 25)) m, mk S (up2 I 197 25 (dr (I 197 25))) L R n) := by
  unfold F_X12_draw
  rw [gi_197_25 hs, Option.bind_some, pi_197_25 hs, Option.bind_some, gi_197_25 hs, Option.bind_some, up2_self, if_neg hm]
  rfl
theorem up_25 (I : mkI) (x y : Int32) : up2 (up2 I 197 25 x) 197 25 y = up2 I 197 25 y := by
  funext b j; simp only [up2]; split <;> rfl
theorem e_sprL (hs : St S R) {W N : Nat} (hW : 1 ≤ W) (hW2 : W ≤ 8) (hN : N ≤ 30) : ∀ (r g i c Mx : Nat) (I : mkI) (t : TS), i + r = N → r < g → c ≤ i → pW t.1.1 = W → RW t.1 (I 198) → (∀ j, j < 10 → I 205 j = -1) → TOK Mx t → Mx + r ≤ 199999 → ∃ I', F_X12_spring_33 g (some 197) (nI N) (nI c) (nI i) (mk S I L R n) = some (nI (aSpr (nI W) r (I 197 25) c t).2, mk S I' L R n) ∧ RW (aSpr (nI W) r (I 197 25) c t).1.1 (I' 198) ∧ scW I I' ∧ (∀ j, j ≠ 22 → j ≠ 25 → I' 197 j = I 197 j) := by
  intro r
  induction r with
  | zero =>
    intro g i c Mx I t hi hg hc hp hRW hf hT hM
    obtain ⟨g, rfl⟩ : ∃ y, g = y + 1 := ⟨g - 1, by omega⟩
    refine ⟨I, ?_, hRW, scW.rf, fun _ _ _ => rfl⟩
    simp only [F_X12_spring_33]
    rw [if_pos (nI_le (by omega) (by omega))]
    rfl
  | succ r ih =>
    intro g i c Mx I t hi hg hc hp hRW hf hT hM
    obtain ⟨g, rfl⟩ : ∃ y, g = y + 1 := ⟨g - 1, by omega⟩
    have hW0 : nI W ≠ 0 := fun e => absurd ((nI_eq (b := 0) (by omega) (by omega)).mp e) (by omega)
    obtain ⟨x, hx⟩ : ∃ x, x = I 197 25 := ⟨_, rfl⟩
    obtain ⟨d, hd⟩ : ∃ d, d = drw (nI W) x := ⟨_, rfl⟩
    obtain ⟨J, hJ⟩ : ∃ J, J = up2 I 197 25 d.1 := ⟨_, rfl⟩
    have kJ : ∀ a, a ≠ 197 → J a = I a := fun a ha => by rw [hJ, up2_ne _ _ _ ha]
    have kJm : ∀ j, j ≠ 25 → J 197 j = I 197 j := fun j hj => by rw [hJ, up2_row, up1_ne _ _ hj]
    have scJ : scW I J := ⟨fun a q1 _ _ _ _ _ => kJ a q1, fun j hj => kJm j (by omega)⟩
    have J25 : J 197 25 = d.1 := by rw [hJ, up2_self]
    have h62 : ∃ I', F_X12_spring_62 (F_X12_spring_33 g) (some 197) (nI N) (nI c) (nI i) d.2 (mk S J L R n) = some (nI (aSpr (nI W) (r + 1) x c t).2, mk S I' L R n) ∧ RW (aSpr (nI W) (r + 1) x c t).1.1 (I' 198) ∧ scW J I' ∧ (∀ j, j ≠ 22 → j ≠ 25 → I' 197 j = J 197 j) := by
      have hRWJ : RW t.1 (J 198) := by rw [kJ _ (by decide)]; exact hRW
      have hwhy : F_X12_whyTold (some 197) d.2.toInt64 (mk S J L R n) = some (aW t d.2.toInt64, mk S J L R n) := e_whyTold hs hT.1.1 hRWJ.1.2.1 hRWJ.2.1 d.2.toInt64
      unfold F_X12_spring_62 F_X12_spring_90
      rw [cv_197 hs, hwhy, b2_some, aSpr, ← hd]
      by_cases e : aW t d.2.toInt64 = 0
      · obtain ⟨I1, I2, q1, q2, q3, q4, q5⟩ := e_step (L := L) (n := n) hs hT (by omega) hRWJ (by rw [kJ _ (by decide)]; exact hf) e
        rw [Int32.toInt32_toInt64] at q2
        obtain ⟨I', z1, z2, z3, z4⟩ := ih g (i + 1) (c + 1) (Mx + 1) I2 (aTry t d.2.toInt64) (by omega) (by omega) (by omega) (by rw [aTry_P]; exact hp) q3 (by rw [q4.ff, kJ _ (by decide)]; exact hf) (hT.try (by omega) _) (by omega)
        rw [q4.2 25 (by decide), J25] at z1 z2
        refine ⟨I', ?_, by rw [if_pos e]; exact z2, q4.1.tr z3, fun j h1 h2 => by rw [z4 j h1 h2, q4.2 j h1]⟩
        rw [if_pos e, if_pos e, cv_197 hs, q1, Option.bind_some, cv_197 hs, q2, Option.bind_some, nI_1, nI_1]
        exact z1
      · have et : aTry t d.2.toInt64 = t := by unfold aTry; rw [if_neg e]
        obtain ⟨I', z1, z2, z3, z4⟩ := ih g (i + 1) c (Mx + 1) J t (by omega) (by omega) (by omega) hp hRWJ (by rw [kJ _ (by decide)]; exact hf) (hT.le (by omega)) (by omega)
        rw [J25] at z1 z2
        refine ⟨I', ?_, by rw [if_neg e, et]; exact z2, z3, z4⟩
        rw [if_neg e, if_neg e, et, nI_1]
        exact z1
    obtain ⟨I', y1, y2, y3, y4⟩ := h62
    refine ⟨I', ?_, by rw [← hx]; exact y2, scJ.tr y3, fun j h1 h2 => by rw [y4 j h1 h2, kJm j h2]⟩
    rw [← hx]
    have kn1 : I 198 1 = nI W := by rw [← hp]; exact hRW.1.2.1
    have a1 : ∀ (J : mkI), J 198 = I 198 → aI (mk S J L R n) (some 198) 0 1 = some (nI W) := fun J h => by
      rw [show aI (mk S J L R n) (some 198) 0 1 = some (J 198 1) from ai_198 (k := 1) hs (by omega), h, kn1]
    simp only [F_X12_spring_33]
    rw [if_neg (nI_ge (by omega) (by omega)), cv_197 hs, e_draw hs (by decide), b2_some, ← hx]
    obtain ⟨s5, hs5, es5⟩ := rm16_5 (dr x)
    unfold drw at hd
    by_cases e2 : rm16 (dr x) 5 = 2
    · rw [if_pos e2] at hd
      rw [e2, if_pos (by decide), cv_197 hs]
      unfold F_X12_drawn F_X12_drawn_54
      rw [if_neg (by decide), gr_197_0 hs, Option.bind_some, a1 _ (up2_ne _ _ _ (by decide)), Option.bind_some, cv_197 hs, e_draw hs hW0, b2_some, if_neg (by decide), gr_197_0 hs, Option.bind_some, a1 _ (by rw [up2_ne _ _ _ (by decide), up2_ne _ _ _ (by decide)]), Option.bind_some, cv_197 hs, e_draw hs hW0, b2_some, b2_some, up2_self, up2_self, up_25, up_25]
      rw [hJ, hd] at y1
      exact y1
    · rw [if_neg e2] at hd
      by_cases e3 : rm16 (dr x) 5 = 3
      · rw [if_pos e3] at hd
        rw [e3, if_pos (by decide), cv_197 hs]
        unfold F_X12_drawn F_X12_drawn_54
        rw [if_neg (by decide), gr_197_0 hs, Option.bind_some, a1 _ (up2_ne _ _ _ (by decide)), Option.bind_some, cv_197 hs, e_draw hs hW0, b2_some, if_pos rfl, b2_some, up2_self, up_25]
        rw [hJ, hd] at y1
        exact y1
      · rw [if_neg e3] at hd
        by_cases e4 : rm16 (dr x) 5 = 4
        · rw [if_pos e4] at hd
          rw [e4, if_pos (by decide), cv_197 hs]
          unfold F_X12_drawn F_X12_drawn_54
          rw [if_pos rfl, cv_197 hs, e_draw hs (by decide), b2_some, b2_some, up2_self, up_25]
          rw [hJ, hd] at y1
          exact y1
        · rw [if_neg e4] at hd
          have h01 : ¬ (2 : Int32) ≤ rm16 (dr x) 5 := by
            rw [es5] at e2 e3 e4 ⊢
            have : ∀ j, j < 5 → nI j ≠ 2 → nI j ≠ 3 → nI j ≠ 4 → ¬ (2 : Int32) ≤ nI j := by decide
            exact this s5 hs5 e2 e3 e4
          rw [if_neg h01]
          rw [hJ, hd] at y1
          exact y1
end SPr
theorem k_spring (Ls : Nat) (xs : Nat → Int32) (a b : Int32) : Good Ls xs (F_L_spring (some 128) a b (some 220)) (F_X12_spring (some 197) a b) := by
  intro k S I L R n ⟨hl, tb, tn, fk, fp, w, tr, im, hC, hR, hG⟩
  obtain ⟨hs, hb, ⟨p, hpl, hp⟩, ⟨c1, c2⟩, hP, hRP, hRB⟩ := inv_all hC hR hG
  have hw := hC.1.2.1
  have w1 := hP.1
  have w2 := hP.2.1
  have eW : ∀ h, F_X12_within b.toInt64 1 30 h = some (b2i (wI b 1 30), h) := fun h => e_in b 1 30 h
  by_cases h1 : wI b 1 30 = true
  · obtain ⟨N, n1, n2, rfl⟩ := (wI_iff (lo := 1) (hi := 30) (by decide) (by decide)).mp h1
    have hfb : ∀ j, j < 81 → I 174 j = w.2.1.2 j := fun j hj => x_cells hC hj
    obtain ⟨Mx, A, M, t1, t2, t3⟩ := tok_start hG hfb
    obtain ⟨t0, ht0⟩ : ∃ t0 : TS, t0 = (nrm w (I 174), A, M) := ⟨_, rfl⟩
    rw [← ht0] at t1
    have hC0 : InvC tb tn fk fp t0.1 tr im (k + 1) S I L R n := by rw [ht0]; exact hC.nrm
    obtain ⟨I1, x1, x2, x3⟩ := c_sprL (W := pW w.1) (N := N) (by omega) w2 n2 N mm_N 0 0 Mx a I t0 (by omega) (by show N < 1000000; omega) (Nat.le_refl _) hC0 t1 (by omega) (by rw [ht0]; rfl)
    have tE := aSpr_ok (W := nI (pW w.1)) N a 0 Mx t0 t1 (by omega)
    obtain ⟨v, hv⟩ : ∃ v, v = nI (aSpr (nI (pW w.1)) N a 0 t0).2 := ⟨_, rfl⟩
    have eK : ∀ a, 197 ≤ a → a ≤ 220 → I1 a = I a := fun a q1 q2 => x3 a (by unfold scr; omega) (by show a ≠ 174; omega) (by show a ≠ 130; omega) (by show a ≠ 131; omega) (hs.nst hw (by omega) q2)
    obtain ⟨J, hJ⟩ : ∃ J, J = up2 (up2 I1 197 4 0) 197 25 a := ⟨_, rfl⟩
    have kJ : ∀ z, z ≠ 197 → J z = I1 z := fun z hz => by rw [hJ, up2_ne _ _ _ hz, up2_ne _ _ _ hz]
    have J25 : J 197 25 = a := by rw [hJ, up2_self]
    have scJ : scW I1 J := ⟨fun z q1 _ _ _ _ _ => kJ z q1, fun j hj => by rw [hJ, up2_row, up1_ne _ _ (by omega), up2_row, up1_ne _ _ (by omega)]⟩
    obtain ⟨I2, y1, y2, y3, y4⟩ := e_sprL (L := up2 L 220 0 v.toInt64) (n := n) hs (W := pW w.1) (N := N) (by omega) w2 n2 N mm_N 0 0 Mx J t0 (by omega) (by show N < 1000000; omega) (Nat.le_refl _) (by rw [ht0]; rfl) (by rw [kJ _ (by decide), eK _ (by decide) (by decide), ht0]; exact hR.2.2.1.nrm hfb) (by rw [kJ _ (by decide), eK _ (by decide) (by decide)]; exact hR.2.2.2.2.2) t1 (by omega)
    rw [J25] at y1 y2
    refine pk_brd (v := v) (w' := (aSpr (nI (pW w.1)) N a 0 t0).1.1) (I' := I1) (I'' := I2) hl hC hR ⟨Mx + N, by omega, tE.1, fun i w' z => (t3 i w' z).le (by omega)⟩ (L_spring_0 hs hs ?_) x3 x2.2.2.2.1 ?_ (by rw [y4 4 (by decide) (by decide), hJ, up2_row, up1_ne _ _ (by decide), up2_self]) (scJ.tr y3) y2
    · unfold F_X11_spring
      rw [x_within hC, if_pos h1, b3_some, gr_128_5 hs, Option.bind_some, bd_p hb hpl, Option.bind_some, pl_0 hp, Option.bind_some, hv]
      exact x1
    · unfold F_X12_spring
      rw [pi_197_4 hs, Option.bind_some, eW, b2_some, h1, if_neg (by decide), pi_197_25 hs, Option.bind_some, ← hJ, hv]
      rw [hv] at y1
      exact y1
  · refine pk_thr (t := 1) (by decide) hl hC hR hG (L_spring_1 hs (S' := S) (I' := I) (L' := L) (R' := R) (n' := (n.1 + 1, n.2 + 6)) ?_) (v := 0) ?_
    · unfold F_X11_spring; rw [x_within hC, if_neg h1, b3_thr2]; rfl
    · unfold F_X12_spring
      rw [pi_197_4 hs, Option.bind_some, eW, b2i_ne h1, b2_some, if_pos rfl, cv_197 hs, fails_q hs, b2_some]
