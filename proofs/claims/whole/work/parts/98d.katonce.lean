/-! at once: both sides; enough -/
section AO
variable {S : mkS} {I : mkI} {L : mkL} {R : mkR} {n : Nat × Nat} {tb : Nat → Nat} {tn : Nat} {fk fp : Int32} {w : WD} {tr : TR} {im : IM} {k : Nat}
theorem bit0 (u k : Nat) (hk : k < 31) : (((nI u >>> (nI k &&& 31)) &&& 1) = 0) = (u.testBit k = false) := by
  have := hasB_nI (v := u) (l := k) hk
  unfold hasB at this
  rw [bit_z, ← this]
  simp
theorem c_joinK (hs : St S R) {P : PL} (hP : PlOK P) {p co : Nat} (hb : BdS S R 170 174 co) (hpl : R 170 2 = some p) (hp : CPlan P S R I p) {t : Nat} {q : PT_X11_joinTwos} {i u l m : Nat} (hl : l < 8) (hm : m < 8) (f : Nat → Bool) (hq : ∀ k, k < pC P → q (some 128) (some (189 + 2 * t)) (nI (i + 1)) (nI (u ||| 2 ^ k)) (mk S I L R n) = some (b2i (f k), mk S I L R n)) : ∀ (z g k : Nat), k + z = pC P → z < g → F_X11_joinTwos_44 q g (some 128) (some (189 + 2 * t)) (nI i) (nI u) (nI l) (nI m) (nI k) (mk S I L R n) = some (b2i ((List.range' k z).any fun k => !(u.testBit k) && (rbo P k l m && f k)), mk S I L R n) := by
  have w3 := hP.2.2.1
  intro z
  induction z with
  | zero =>
    intro g k hk hg
    obtain ⟨g, rfl⟩ : ∃ y, g = y + 1 := ⟨g - 1, by omega⟩
    simp only [F_X11_joinTwos_44]
    rw [gr_128_5 hs, Option.bind_some, bd_p hb hpl, Option.bind_some, pl_1 hp, Option.bind_some, if_pos (nI_le (by omega) (by omega)), rZ_0]
    rfl
  | succ z ih =>
    intro g k hk hg
    obtain ⟨g, rfl⟩ : ∃ y, g = y + 1 := ⟨g - 1, by omega⟩
    have ih' := ih g (k + 1) (by omega) (by omega)
    simp only [F_X11_joinTwos_44, F_X11_joinTwos_106, bit0 u k (by omega)]
    rw [gr_128_5 hs, Option.bind_some, bd_p hb hpl, Option.bind_some, pl_1 hp, Option.bind_some, if_neg (nI_ge (by omega) (by omega)), Option.bind_some, bd_p hb hpl, Option.bind_some, pl_v hp.1, c_reaches hP hp (by omega) (by omega) (by omega), b2_some, nI_1, nI_1, ih', sh1 (show k < 31 by omega), nI_or, cv_128 hs, hq k (by omega), b2_some, ih', List.range'_succ, List.any_cons]
    rw [show (hasB (pRe P k) (nI l) && hasB (pRe P k) (nI m)) = rbo P k l m from rfl]
    cases u.testBit k <;> cases rbo P k l m <;> cases f k <;> rfl
theorem c_joinT (hC : InvC tb tn fk fp w tr im k S I L R n) (hP : PlOK w.1) {t so ma : Nat} {nu : Nat → Int64} (ht : t < 4) (hq : tr t = some (so, ma, nu)) (h2 : r2 (pW w.1) ma nu = true) : ∀ (r F i u : Nat), i + r = ma / 2 → r < F → G_X11_joinTwos F (some 128) (some (189 + 2 * t)) (nI i) (nI u) (mk S I L R n) = some (b2i (jT w.1 nu r i u), mk S I L R n) := by
  have hs := hC.1.1
  obtain ⟨hm, hm2, hl⟩ := x_tray hC ht hq
  obtain ⟨d1, d2, d3, d4, d5⟩ := r2_d hP h2
  obtain ⟨hbd, ⟨p, hpl, hp⟩, -⟩ := id hC.2.2.2.1
  have w2 := hP.2.1
  intro r
  induction r with
  | zero =>
    intro F i u hi hF
    obtain ⟨F, rfl⟩ : ∃ y, F = y + 1 := ⟨F - 1, by omega⟩
    show F_X11_joinTwos (G_X11_joinTwos F) _ _ _ _ _ = _
    unfold F_X11_joinTwos F_X11_joinTwos_17
    by_cases e : 3 ≤ i
    · rw [if_pos (show (3 : Int32) ≤ nI i from le_li 3 e (by omega)), rZ_1]; rfl
    · rw [if_neg (show ¬ (3 : Int32) ≤ nI i from ge_li 3 (by omega) (by decide)), tr_v hs ht, c_many hs ht hm hm2, b2_some, show (2 : Int32) * nI i = nI (2 * i) from nI_mul9 2 i, nI_1, if_neg (nI_nlt (by omega) (by omega)), rZ_1]; rfl
  | succ r ih =>
    intro F i u hi hF
    obtain ⟨F, rfl⟩ : ∃ y, F = y + 1 := ⟨F - 1, by omega⟩
    have w3 := hP.2.2.1
    show F_X11_joinTwos (G_X11_joinTwos F) _ _ _ _ _ = _
    unfold F_X11_joinTwos F_X11_joinTwos_17
    rw [if_neg (show ¬ (3 : Int32) ≤ nI i from ge_li 3 (by omega) (by decide)), tr_v hs ht, c_many hs ht hm hm2, b2_some, show (2 : Int32) * nI i = nI (2 * i) from nI_mul9 2 i, nI_1, if_pos (nI_lt (by omega) (by omega)), tr_v hs ht, c_at hs ht hm hm2 (by omega), b2_some, tr_v hs ht, c_at hs ht hm hm2 (by omega), b2_some, hl (2 * i) (by omega), hl (2 * i + 1) (by omega), (d4 (2 * i) (by omega)).2, (d4 (2 * i + 1) (by omega)).2, Int32.toInt32_toInt64, Int32.toInt32_toInt64]
    have a1 := (d4 (2 * i) (by omega)).1
    have a2 := (d4 (2 * i + 1) (by omega)).1
    exact c_joinK hs hP hbd hpl hp (by omega) (by omega) (fun k => jT w.1 nu r (i + 1) (u ||| 2 ^ k)) (fun k _ => ih F (i + 1) (u ||| 2 ^ k) (by omega) (by omega)) (pC w.1) mm_N 0 (by omega) (by show pC w.1 < 1000000; omega)
theorem and_z (s l : Nat) (hl : l < 8) : (nI s &&& nI (2 ^ l) = 0) = (s.testBit l = false) := by
  have h1 : s &&& 2 ^ l ≤ 2 ^ l := Nat.and_le_right
  have h2 : 2 ^ l ≤ 2 ^ 7 := Nat.pow_le_pow_right (by decide) (by omega)
  rw [nI_and]
  exact propext (((nI_eq (b := 0) (by omega) (by omega))).trans (and2 s l))
theorem c_atL (hC : InvC tb tn fk fp w tr im (k + 1) S I L R n) (hP : PlOK w.1) {t so ma : Nat} {nu : Nat → Int64} (ht : t < 4) (hq : tr t = some (so, ma, nu)) (h2 : r2 (pW w.1) ma nu = true) : ∀ (r g i s : Nat), i + r = ma → r < g → F_X11_atOnce_16 g (some 128) (some (189 + 2 * t)) (nI s) (nI i) (mk S I L R n) = if dsB nu r i s = true then some (.inr (b2i (jT w.1 nu (ma / 2) 0 0)), mk S I L R n) else thr "java/lang/IllegalArgumentException" S I L R n := by
  have hs := hC.1.1
  obtain ⟨hm, hm2, hl⟩ := x_tray hC ht hq
  obtain ⟨d1, d2, d3, d4, d5⟩ := r2_d hP h2
  have w2 := hP.2.1
  intro r
  induction r with
  | zero =>
    intro g i s hi hg
    obtain ⟨g, rfl⟩ : ∃ y, g = y + 1 := ⟨g - 1, by omega⟩
    simp only [F_X11_atOnce_16]
    rw [tr_v hs ht, c_many hs ht hm hm2, b2_some, if_pos (nI_le (by omega) (by omega)), cv_128 hs, show (0 : Int32) = nI 0 from rfl, c_joinT hC hP ht hq h2 (ma / 2) 64 0 0 (by omega) (by omega), b2_some, rZX_b]
    rfl
  | succ r ih =>
    intro g i s hi hg
    obtain ⟨g, rfl⟩ : ∃ y, g = y + 1 := ⟨g - 1, by omega⟩
    have a1 := (d4 i (by omega)).1
    have ih' := ih g (i + 1) (s ||| 2 ^ lnv nu i) (by omega) (by omega)
    have ez := and_z s (lnv nu i) (by omega)
    simp only [F_X11_atOnce_16]
    rw [tr_v hs ht, c_many hs ht hm hm2, b2_some, if_neg (nI_ge (by omega) (by omega)), tr_v hs ht, c_at hs ht hm hm2 (by omega), b2_some, hl i (by omega), (d4 i (by omega)).2, Int32.toInt32_toInt64, sh1 (show lnv nu i < 31 by omega), nI_or, nI_1, ih', hC.thr]
    simp only [ez]
    rw [dsB]
    by_cases e : s.testBit (lnv nu i) = true
    · rw [if_neg (by rw [e]; decide), e, if_neg (by simp)]; rfl
    · have e' : s.testBit (lnv nu i) = false := by simpa using e
      rw [if_pos e', e']
      simp only [Bool.not_false, Bool.true_and]
theorem e_joinK (hs : St S R) {P : PL} (hP : PlOK P) (hK : RPlan P (I 198)) {t : Nat} {q : PT_X12_joins} {i u l m : Nat} {v1 v2 : Int64} (ht : 30 * t + (2 * i + 1) < 120) (h1 : L 219 (30 * t + 2 * i) = (nI l).toInt64) (h2 : L 219 (30 * t + (2 * i + 1)) = (nI m).toInt64) (f : Nat → Bool) (hq : ∀ k, k < pC P → q (some 197) (nI t) (nI (i + 1)) (nI (u ||| 2 ^ k)) (mk S I L R n) = some (b2i (f k), mk S I L R n)) : ∀ (z g k : Nat), k + z = pC P → z < g → F_X12_joins_17 q g (some 197) (nI t) (nI i) (nI u) (nI k) (mk S I L R n) = some (b2i ((List.range' k z).any fun k => !(u.testBit k) && (rbo P k l m && f k)), mk S I L R n) := by
  have w3 := hP.2.2.1
  intro z
  induction z with
  | zero =>
    intro g k hk hg
    obtain ⟨g, rfl⟩ : ∃ y, g = y + 1 := ⟨g - 1, by omega⟩
    simp only [F_X12_joins_17]
    rw [gr_197_0 hs, Option.bind_some, show aI (mk S I L R n) (some 198) 0 2 = some (I 198 2) from ai_198 (k := 2) hs (by omega), Option.bind_some, hK.2.2.1, if_pos (nI_le (by omega) (by omega)), rZ_0]
    rfl
  | succ z ih =>
    intro g k hk hg
    obtain ⟨g, rfl⟩ : ∃ y, g = y + 1 := ⟨g - 1, by omega⟩
    have ih' := ih g (k + 1) (by omega) (by omega)
    simp only [F_X12_joins_17, F_X12_joins_83]
    rw [gr_197_0 hs, Option.bind_some, show aI (mk S I L R n) (some 198) 0 2 = some (I 198 2) from ai_198 (k := 2) hs (by omega), Option.bind_some, hK.2.2.1, if_neg (nI_ge (by omega) (by omega)), e_has, b2_some, hasB_nI (by omega), show (2 : Int32) * nI i = nI (2 * i) from nI_mul9 2 i, cv_197 hs, e_told hs (by omega), b2_some, nI_1, cv_197 hs, e_told hs (by omega), b2_some, h1, h2, Int32.toInt32_toInt64, Int32.toInt32_toInt64, cv_197 hs, e_reachesBoth hs hK w3 (by omega), b2_some, nI_1, nI_1, ih', sh1 (show k < 31 by omega), nI_or, cv_197 hs, hq k (by omega), b2_some, ih', List.range'_succ, List.any_cons]
    cases u.testBit k <;> cases rbo P k l m <;> cases f k <;> rfl
theorem e_joinT (hs : St S R) {P : PL} (hP : PlOK P) (hK : RPlan P (I 198)) {t ma : Nat} {nu : Nat → Int64} (hT : RTl t ma nu I L) (h2 : r2 (pW P) ma nu = true) : ∀ (r F i u : Nat), i + r = ma / 2 → r < F → G_X12_joins F (some 197) (nI t) (nI i) (nI u) (mk S I L R n) = some (b2i (jT P nu r i u), mk S I L R n) := by
  obtain ⟨ht, hm, -, h4, h5⟩ := hT
  obtain ⟨d1, d2, d3, d4, d5⟩ := r2_d hP h2
  have w3 := hP.2.2.1
  intro r
  induction r with
  | zero =>
    intro F i u hi hF
    obtain ⟨F, rfl⟩ : ∃ y, F = y + 1 := ⟨F - 1, by omega⟩
    show F_X12_joins (G_X12_joins F) _ _ _ _ _ = _
    unfold F_X12_joins
    rw [gr_197_46 hs, Option.bind_some, ai_218 hs ht, Option.bind_some, h4, show (2 : Int32) * nI i = nI (2 * i) from nI_mul9 2 i, if_pos (by rw [show 2 * i = ma by omega]), rZ_1]
    rfl
  | succ r ih =>
    intro F i u hi hF
    obtain ⟨F, rfl⟩ : ∃ y, F = y + 1 := ⟨F - 1, by omega⟩
    show F_X12_joins (G_X12_joins F) _ _ _ _ _ = _
    unfold F_X12_joins
    rw [gr_197_46 hs, Option.bind_some, ai_218 hs ht, Option.bind_some, h4, show (2 : Int32) * nI i = nI (2 * i) from nI_mul9 2 i, if_neg (fun e => absurd ((nI_eq (by omega) (by omega)).mp e) (by omega))]
    exact e_joinK (v1 := 0) (v2 := 0) hs hP hK (by omega) ((h5 (2 * i) (by omega)).trans (d4 (2 * i) (by omega)).2) ((h5 (2 * i + 1) (by omega)).trans (d4 (2 * i + 1) (by omega)).2) (fun k => jT P nu r (i + 1) (u ||| 2 ^ k)) (fun k _ => ih F (i + 1) (u ||| 2 ^ k) (by omega) (by omega)) (pC P) mm_N 0 (by omega) (by show pC P < 1000000; omega)
theorem e_at65 (hs : St S R) (h : ¬ I 197 4 = 0) (a : Int32) : F_X12_atOnce_65 (some 197) a (mk S I L R n) = some (0, mk S I L R n) := by
  unfold F_X12_atOnce_65 F_X12_atOnce_86 F_X12_atOnce_87
  rw [gi_197_4 hs, Option.bind_some, if_neg h, rZ_0]; rfl
theorem e_at13 (hs : St S R) (h : ¬ I 197 4 = 0) (a x y : Int32) : F_X12_atOnce_13 mm_N (some 197) a x y (mk S I L R n) = some (0, mk S I L R n) := by
  obtain ⟨g, eg⟩ : ∃ g, mm_N = g + 1 := ⟨mm_N - 1, by unfold mm_N; omega⟩
  rw [eg]
  simp only [F_X12_atOnce_13]
  rw [gi_197_4 hs, Option.bind_some, if_neg h, e_at65 hs h]
theorem e_atL (hs : St S R) {P : PL} (hP : PlOK P) (hK : RPlan P (I 198)) {t ma : Nat} {nu : Nat → Int64} (hT : RTl t ma nu I L) (h2 : r2 (pW P) ma nu = true) (h0 : I 197 4 = 0) : ∀ (r g i s : Nat), i + r = ma → r + 1 < g → F_X12_atOnce_13 g (some 197) (nI t) (nI s) (nI i) (mk S I L R n) = if dsB nu r i s = true then some (b2i (jT P nu (ma / 2) 0 0), mk S I L R n) else some (0, mk S (up2 I 197 4 3) L R n) := by
  obtain ⟨ht, hm, -, h4, h5⟩ := id hT
  obtain ⟨d1, d2, d3, d4, d5⟩ := r2_d hP h2
  have w2 := hP.2.1
  intro r
  induction r with
  | zero =>
    intro g i s hi hg
    obtain ⟨g, rfl⟩ : ∃ y, g = y + 1 := ⟨g - 1, by omega⟩
    simp only [F_X12_atOnce_13, F_X12_atOnce_65, F_X12_atOnce_86, F_X12_atOnce_87]
    rw [gi_197_4 hs, Option.bind_some, if_pos h0, gr_197_46 hs, Option.bind_some, ai_218 hs ht, Option.bind_some, h4, if_pos (nI_le (by omega) (by omega)), Option.bind_some, if_pos h0, cv_197 hs, show (0 : Int32) = nI 0 from rfl, e_joinT hs hP hK hT h2 (ma / 2) 64 0 0 (by omega) (by omega), b2_some]
    unfold dsB
    rw [if_pos rfl]
    cases jT P nu (ma / 2) 0 0 <;> rfl
  | succ r ih =>
    intro g i s hi hg
    obtain ⟨g, rfl⟩ : ∃ y, g = y + 1 := ⟨g - 1, by omega⟩
    have a1 := (d4 i (by omega)).1
    have ih' := ih g (i + 1) (s ||| 2 ^ lnv nu i) (by omega) (by omega)
    have et : ∀ I n, F_X12_told (some 197) (nI t) (nI i) (mk S I L R n) = some (nI (lnv nu i), mk S I L R n) := fun I n => by
      rw [e_told hs (by omega), h5 i (by omega), (d4 i (by omega)).2, Int32.toInt32_toInt64]
    simp only [F_X12_atOnce_13, F_X12_atOnce_48]
    rw [gi_197_4 hs, Option.bind_some, if_pos h0, gr_197_46 hs, Option.bind_some, ai_218 hs ht, Option.bind_some, h4, if_neg (nI_ge (by omega) (by omega)), cv_197 hs, et, b2_some, e_has, b2_some, hasB_nI (by omega), cv_197 hs, et, b2_some, sh1 (show lnv nu i < 31 by omega), nI_or, nI_1, ih', pi_197_4 hs, Option.bind_some, cv_197 hs, et, b2_some]
    rw [dsB]
    by_cases e : s.testBit (lnv nu i) = true
    · obtain ⟨g, rfl⟩ : ∃ y, g = y + 1 := ⟨g - 1, by omega⟩
      rw [e, if_neg (by decide), if_neg (by simp)]
      simp only [F_X12_atOnce_13]
      rw [gi_197_4 hs, Option.bind_some, up2_self, if_neg (by decide), e_at65 hs (by rw [up2_self]; decide)]
    · have e' : s.testBit (lnv nu i) = false := by simpa using e
      rw [e', if_pos (by decide)]
      simp only [Bool.not_false, Bool.true_and]
end AO
theorem k_atOnce (Ls : Nat) (xs : Nat → Int32) (a : Int32) : Good Ls xs (F_L_atOnce (some 128) a (some 220)) (F_X12_atOnce (some 197) a) := by
  intro k S I L R n ⟨hl, tb, tn, fk, fp, w, tr, im, hC, hR, hG⟩
  obtain ⟨hs, hb, ⟨p, hpl, hp⟩, ⟨c1, c2⟩, hP, hRP, hRB⟩ := inv_all hC hR hG
  have bad : ∀ (f : Int32) n', ¬ f = 0 → F_X12_twosFault (some 197) a (mk S I L R n') = some (f, mk S I L R n') → F_X12_atOnce (some 197) a (mk S I L R n') = some (0, mk S (up2 I 197 4 f) L R n') := fun f n' hf h => by
    unfold F_X12_atOnce
    rw [cv_197 hs, h, b2_some, pi_197_4 hs, Option.bind_some, e_at13 hs (by rw [up2_self]; exact hf)]
  rcases x_told hC a with ⟨ha, ht⟩ | ⟨t, ht4, rfl, ⟨hn, ht⟩ | ⟨so, ma, nu, hq, ht⟩⟩
  · refine pk_thr (t := 1) (by decide) hl hC hR hG (L_atOnce_1 hs (S' := S) (I' := I) (L' := L) (R' := R) (n' := (n.1 + 1, n.2 + 6)) ?_) (bad 1 _ (by decide) ?_)
    · unfold F_X11_atOnce; rw [cv_128 hs, ht, b3_thr2]; rfl
    · unfold F_X12_twosFault; rw [cv_197 hs, e_trayNo hs ha, b2_some, if_neg (by decide)]
  · have hm := hR.2.2.2.1 t ht4
    rw [hn] at hm
    refine pk_thr (t := 2) (by decide) hl hC hR hG (L_atOnce_2 hs (S' := S) (I' := I) (L' := L) (R' := R) (n' := (n.1 + 1, n.2 + 6)) ?_) (bad 2 _ (by decide) ?_)
    · unfold F_X11_atOnce; rw [cv_128 hs, ht, b3_thr2]; rfl
    · unfold F_X12_twosFault; rw [cv_197 hs, e_tray hs ht4, if_pos hm, b2_some, if_neg (by decide)]
  · have hT := tr_ref hR ht4 hq
    have hf := fun n L (hT : RTl t ma nu I L) => e_twosFault (R := R) (n := n) hs hT (hRP.2.1)
    by_cases h2 : r2 (pW w.1) ma nu = true
    · obtain ⟨d1, d2, d3, d4, d5⟩ := r2_d hP h2
      have hcl := c_atL hC hP ht4 hq h2 ma mm_N 0 0 (by omega) (by show ma < 1000000; omega)
      have hx : F_X11_atOnce (some 128) (nI t) (mk S I L R n) = F_X11_atOnce_16 mm_N (some 128) (some (189 + 2 * t)) (nI 0) (nI 0) (mk S I L R n) := by
        unfold F_X11_atOnce
        rw [cv_128 hs, ht, b3_some, cv_128 hs, x_twos hC hP ht4 hq, if_pos h2, b3_some]
        rfl
      have hrf : ∀ n L (hT : RTl t ma nu I L), F_X12_atOnce (some 197) (nI t) (mk S I L R n) = if dsB nu ma 0 0 = true then some (b2i (jT w.1 nu (ma / 2) 0 0), mk S (up2 I 197 4 0) L R n) else some (0, mk S (up2 I 197 4 3) L R n) := fun n L hT => by
        have := e_atL (n := n) hs hP (by rw [up2_ne _ _ _ (by decide)]; exact hRP) (hT.m4 0) h2 (up2_self _ _ _ _) ma mm_N 0 0 (by omega) (by show ma + 1 < 1000000; omega)
        unfold F_X12_atOnce
        rw [cv_197 hs, hf _ _ hT, if_pos h2, b2_some, pi_197_4 hs, Option.bind_some]
        refine this.trans ?_
        rw [show up2 (up2 I 197 4 0) 197 4 3 = up2 I 197 4 3 by funext b j; simp only [up2]; split <;> rfl]
      by_cases hd : dsB nu ma 0 0 = true
      · rw [if_pos hd] at hcl
        have hT2 : RTl t ma nu I (up2 L 220 0 (b2i (jT w.1 nu (ma / 2) 0 0)).toInt64) := by
          obtain ⟨t1, t2, t3, t4, t5⟩ := hT
          exact ⟨t1, t2, t3, t4, fun j hj => by rw [up2_ne _ _ _ (by decide)]; exact t5 j hj⟩
        have sc : scQ I (up2 I 197 4 0) := scQ.m4
        refine pk_val (v := b2i (jT w.1 nu (ma / 2) 0 0)) hl hC hR hG (L_atOnce_0 hs hs (hx.trans hcl)) (fun _ _ _ => rfl) (fun _ _ => rfl) ⟨rfl, rfl⟩ (I'' := up2 I 197 4 0) ?_ (up2_self _ _ _ _) sc.fr sc.inv
        rw [hrf _ _ hT2, if_pos hd]
      · rw [if_neg hd] at hcl
        refine pk_thr (t := 3) (by decide) hl hC hR hG (L_atOnce_3 hs (S' := S) (I' := I) (L' := L) (R' := R) (n' := (n.1 + 1, n.2 + 6)) (hx.trans hcl)) (v := 0) ?_
        rw [hrf _ _ hT, if_neg hd]
    · refine pk_thr (t := 3) (by decide) hl hC hR hG (L_atOnce_3 hs (S' := S) (I' := I) (L' := L) (R' := R) (n' := (n.1 + 1, n.2 + 6)) ?_) (bad 3 _ (by decide) ?_)
      · unfold F_X11_atOnce; rw [cv_128 hs, ht, b3_some, cv_128 hs, x_twos hC hP ht4 hq, if_neg h2, b3_thr2]; rfl
      · rw [hf _ _ hT, if_neg h2]
theorem k_enough (Ls : Nat) (xs : Nat → Int32) : GoodP Ls xs (F_X11_enough (some 128)) (F_X12_enough (some 197)) := by
  intro k S I L R n ⟨hl, tb, tn, fk, fp, w, tr, im, hC, hR, hG⟩
  obtain ⟨hs, hb, ⟨p, hpl, hp⟩, ⟨c1, c2⟩, hP, hRP, hRB⟩ := inv_all hC hR hG
  have w3 := hP.2.2.1
  have hp8 : 2 ^ pC w.1 ≤ 2 ^ 3 := Nat.pow_le_pow_right (by decide) w3
  have hp1 : 1 ≤ 2 ^ pC w.1 := Nat.one_le_two_pow
  refine pk_okP (v := enF w.1 (2 ^ pC w.1 - 1) 1 (-1)) (I'' := up2 I 197 4 0) (L'' := L) hl ?_ ?_ FrC.rf (FrR.up (by decide)) hC.le (hR.m4 0) hG.le
  · unfold F_X11_enough
    rw [gr_128_5 hs, Option.bind_some, bd_p hb hpl, Option.bind_some, pl_1 hp, Option.bind_some]
    exact c_enF hs hP hb hpl hp (2 ^ pC w.1 - 1) mm_N 1 (-1) (by omega) (by show 2 ^ pC w.1 - 1 < 1000000; omega)
  · unfold F_X12_enough
    rw [pi_197_4 hs, Option.bind_some]
    have := e_enF (L := L) (n := n) hs hP (I := up2 I 197 4 0) (by rw [up2_ne _ _ _ (by decide)]; exact hRP) (2 ^ pC w.1) mm_N 0 (-1) (by omega) (by show 2 ^ pC w.1 < 1000000; omega)
    refine this.trans ?_
    obtain ⟨y, hy⟩ : ∃ y, 2 ^ pC w.1 = y + 1 := ⟨2 ^ pC w.1 - 1, by omega⟩
    rw [hy, enF, Nat.add_sub_cancel]
    unfold enS
    rw [jRR_0 hP, if_neg (by decide)]
