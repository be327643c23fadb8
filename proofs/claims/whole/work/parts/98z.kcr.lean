/-! crossed, crossings: both sides -/
theorem kX.scQ {i : Nat} {I I' : mkI} (h : kX i I I') : scQ I I' := ⟨fun x q1 q2 q3 q4 q5 => h.1 x q1 (by show x ≠ 206; omega) q3 q4 (by show x ≠ 209; omega) (by show x ≠ 210; omega), fun j q => h.2.1 j (by omega) (by omega)⟩
theorem e_crossAll {S : mkS} {L : mkL} {R : mkR} {n : Nat × Nat} {P : PL} {C M t ma m : Nat} {f : Nat → Int32} {F T A D : Nat → Nat} {nu : Nat → Int64} (hs : St S R) (hP : PlOK P) (hB : BI P C f F T A D M) (hM : M ≤ 200000) (hma : ma = 2 * m) (hm : m ≤ 3) (hnu : ∀ j, j < ma → lnv nu j < pW P ∧ nu j = (nI (lnv nu j)).toInt64) {I : mkI} (hRP : RPlan P (I 198)) (hRB : RBoard C f (I 198)) (hT : RTl t ma nu I L) (hf : ∀ j, j < 10 → I 205 j = -1) : ∃ I', G_X12_goesCrossed 64 (some 197) (nI t) 0 (mk S (up2 I 197 33 0) L R n) = some (mk S I' L R n) ∧ XAs m (eX (qX f F (lnv nu)) m C (gdX (P, C, f, A, M) (qX f F (lnv nu)) m) m 0 (fun _ => 0) (0, fun _ => 0)) I' ∧ scQ I I' ∧ I' 197 4 = I 197 4 := by
  have hC := hB.1.1
  have hpw : C ^ m ≤ 1000 := by
    have h1 : C ^ m ≤ 10 ^ m := Nat.pow_le_pow_left hC m
    have h2 : 10 ^ m ≤ 10 ^ 3 := Nat.pow_le_pow_right (by decide) hm
    omega
  obtain ⟨t1, t2, t3, t4, t5⟩ := hT
  obtain ⟨I', q1, q2, q3⟩ := e_goesX (L := L) (n := n) hs hP hB hM hma hm hnu m 64 0 (fun _ => 0) (0, fun _ => 0) (up2 I 197 33 0) (by omega) (by omega) ⟨by rw [up2_ne _ _ _ (by decide)]; exact hRP, by rw [up2_ne _ _ _ (by decide)]; exact hRB, t1, t2, by rw [up2_ne _ _ _ (by decide)]; exact t3, by rw [up2_ne _ _ _ (by decide)]; exact t4, t5⟩ ⟨fun c hc => by rw [up2_ne _ _ _ (by decide)]; exact hf c hc, fun j h => absurd h (Nat.not_lt_zero _)⟩ ⟨by rw [up2_self]; rfl, fun h => absurd rfl h⟩ (by show 0 + C ^ m ≤ 1000; omega) (fun c hc => .inl rfl)
  have k0 : kX 0 I (up2 I 197 33 0) := ⟨fun x b _ _ _ _ _ => up2_ne _ _ _ b, fun j _ b => by rw [up2_row, up1_ne _ _ b], fun j h => absurd h (Nat.not_lt_zero _)⟩
  exact ⟨I', q1, q2, (k0.tr q3).scQ, by rw [(k0.tr q3).2.1 4 (by decide) (by decide)]⟩
theorem RTl.out {t ma : Nat} {nu : Nat → Int64} {I : mkI} {L : mkL} (h : RTl t ma nu I L) (v : Int64) : RTl t ma nu I (up2 L 220 0 v) := by
  obtain ⟨t1, t2, t3, t4, t5⟩ := h
  exact ⟨t1, t2, t3, t4, fun j hj => by rw [up2_ne _ _ _ (by decide)]; exact t5 j hj⟩
theorem RTl.cg {t ma : Nat} {nu : Nat → Int64} {I I' : mkI} {L : mkL} (h : RTl t ma nu I L) (h1 : I' 217 = I 217) (h2 : I' 218 = I 218) : RTl t ma nu I' L := by
  obtain ⟨t1, t2, t3, t4, t5⟩ := h
  exact ⟨t1, t2, by rw [h1]; exact t3, by rw [h2]; exact t4, t5⟩
theorem k_crossings (Ls : Nat) (xs : Nat → Int32) (a : Int32) : Good Ls xs (F_L_crossings (some 128) a (some 220)) (F_X12_crossings (some 197) a) := by
  intro k S I L R n ⟨hl, tb, tn, fk, fp, w, tr, im, hC, hR, hG⟩
  obtain ⟨hs, hb, ⟨p, hpl, hp⟩, ⟨c1, c2⟩, hP, hRP, hRB⟩ := inv_all hC hR hG
  have hw := hC.1.2.1
  have bad : ∀ (f : Nat) n', 0 < f → f < 4 → F_X12_twosFault (some 197) a (mk S I L R n') = some (nI f, mk S I L R n') → F_X12_crossings (some 197) a (mk S I L R n') = some (0, mk S (up2 I 197 4 (nI f)) L R n') := fun f n' hf hf4 h => by
    unfold F_X12_crossings
    rw [cv_197 hs, h, b2_some, pi_197_4 hs, Option.bind_some, gi_197_4 hs, Option.bind_some, up2_self, if_neg (show ¬ nI f ≤ 0 from fun z => absurd z (show ¬ nI f ≤ nI 0 from nI_ge hf (by omega)))]
  rcases x_told hC a with ⟨ha, ht⟩ | ⟨t, ht4, rfl, ⟨hn, ht⟩ | ⟨so, ma, nu, hq, ht⟩⟩
  · refine pk_thr (t := 1) (by decide) hl hC hR hG (L_crossings_1 hs (S' := S) (I' := I) (L' := L) (R' := R) (n' := (n.1 + 1, n.2 + 6)) ?_) (bad 1 _ (by decide) (by decide) ?_)
    · unfold F_X11_crossings; rw [cv_128 hs, ht, b3_thr2]; rfl
    · unfold F_X12_twosFault; rw [cv_197 hs, e_trayNo hs ha, b2_some, if_neg (by decide)]; rfl
  · have hm := hR.2.2.2.1 t ht4
    rw [hn] at hm
    refine pk_thr (t := 2) (by decide) hl hC hR hG (L_crossings_2 hs (S' := S) (I' := I) (L' := L) (R' := R) (n' := (n.1 + 1, n.2 + 6)) ?_) (bad 2 _ (by decide) (by decide) ?_)
    · unfold F_X11_crossings; rw [cv_128 hs, ht, b3_thr2]; rfl
    · unfold F_X12_twosFault; rw [cv_197 hs, e_tray hs ht4, if_pos hm, b2_some, if_neg (by decide)]; rfl
  · have hT := tr_ref hR ht4 hq
    have hf := fun n I L (hT : RTl t ma nu I L) (h1 : I 198 1 = nI (pW w.1)) => e_twosFault (R := R) (S := S) (n := n) hs hT h1
    by_cases h2 : r2 (pW w.1) ma nu = true
    · obtain ⟨d1, d2, d3, d4, d5⟩ := r2_d hP h2
      obtain ⟨-, g3, g4, F, T, A, D, M, hB, hM, hgo⟩ := hG.opn
      have hB' := hB.congr (fun j hj => x_cells hC hj)
      obtain ⟨x1, x2, x3⟩ := x_tray hC ht4 hq
      obtain ⟨I1, q1, q2, q3⟩ := c_seekX (L := L) (n := n) hs hP hw hb hpl hB' (by omega) ht4 (m := ma / 2) d1 (by omega) (by omega) x3 d4 hp rfl x2
      obtain ⟨y, hy⟩ : ∃ y, y = eX (qX (I 174) F (lnv nu)) (ma / 2) w.2.1.1 (gdX (w.1, w.2.1.1, I 174, A, M) (qX (I 174) F (lnv nu)) (ma / 2)) (ma / 2) 0 (fun _ => 0) (0, fun _ => 0) := ⟨_, rfl⟩
      rw [← hy] at q2
      have kk : ∀ a, 197 ≤ a → a ≤ 220 → I1 a = I a := fun a z1 z2 => q3 a (by omega) (hs.nst hw (by omega) z2)
      have hx : F_X11_crossings (some 128) (nI t) (mk S I L R n) = some (.inr (nI y.1), mk S I1 L R n) := by
        unfold F_X11_crossings F_X2_ways
        rw [cv_128 hs, ht, b3_some, cv_128 hs, x_twos hC hP ht4 hq, if_pos h2, b3_some, gr_128_12 hs, Option.bind_some, gr_128_5 hs, Option.bind_some, cv_146 hs, q1, Option.bind_some, gr_128_12 hs, Option.bind_some, cv_146 hs, gi_146_5 hs, Option.bind_some, q2.1, b2_some]
      obtain ⟨v, hv⟩ : ∃ v, v = nI y.1 := ⟨_, rfl⟩
      rw [← hv] at hx
      have hT1 : RTl t ma nu (up2 I1 197 4 0) (up2 L 220 0 v.toInt64) := (hT.out _).cg (by rw [up2_ne _ _ _ (by decide), kk _ (by decide) (by decide)]) (by rw [up2_ne _ _ _ (by decide), kk _ (by decide) (by decide)])
      obtain ⟨I2, m1, m2, m3, m4⟩ := e_crossAll (L := up2 L 220 0 v.toInt64) (n := n) hs hP hB' (by omega) (t := t) d1 (by omega) d4 (I := up2 I1 197 4 0) (by rw [up2_ne _ _ _ (by decide), kk _ (by decide) (by decide)]; exact hRP) (by rw [up2_ne _ _ _ (by decide), kk _ (by decide) (by decide)]; exact hRB) hT1 (fun j hj => by rw [up2_ne _ _ _ (by decide), kk _ (by decide) (by decide)]; exact hR.2.2.2.2.2 j hj)
      rw [← hy] at m2
      have sc : scQ I1 I2 := scQ.m4.tr m3
      refine pk_val hl hC hR hG (L_crossings_0 hs hs hx) (fun x q z => q3 x (fun u => q (by unfold scr; omega)) z) (fun _ _ => rfl) ⟨rfl, rfl⟩ (I'' := I2) ?_ (by rw [m4, up2_self]) sc.fr sc.inv
      unfold F_X12_crossings
      rw [cv_197 hs, hf _ _ _ ((hT.out v.toInt64).cg (kk _ (by decide) (by decide)) (kk _ (by decide) (by decide))) (by rw [kk _ (by decide) (by decide)]; exact hRP.2.1), if_pos h2, b2_some, pi_197_4 hs, Option.bind_some, gi_197_4 hs, Option.bind_some, up2_self, if_pos (by decide), pi_197_33 hs, Option.bind_some, cv_197 hs, m1, Option.bind_some, gi_197_33 hs, Option.bind_some, m2.1, hv]
    · refine pk_thr (t := 3) (by decide) hl hC hR hG (L_crossings_3 hs (S' := S) (I' := I) (L' := L) (R' := R) (n' := (n.1 + 1, n.2 + 6)) ?_) (bad 3 _ (by decide) (by decide) ?_)
      · unfold F_X11_crossings; rw [cv_128 hs, ht, b3_some, cv_128 hs, x_twos hC hP ht4 hq, if_neg h2, b3_thr2]; rfl
      · rw [hf _ _ _ hT hRP.2.1, if_neg h2]; rfl
theorem k_crossed (Ls : Nat) (xs : Nat → Int32) (a b : Int32) : Good Ls xs (F_L_crossed (some 128) a b (some 220)) (F_X12_crossed (some 197) a b) := by
  intro k S I L R n ⟨hl, tb, tn, fk, fp, w, tr, im, hC, hR, hG⟩
  obtain ⟨hs, hb, ⟨p, hpl, hp⟩, ⟨c1, c2⟩, hP, hRP, hRB⟩ := inv_all hC hR hG
  have hw := hC.1.2.1
  have bad : ∀ (f : Nat) n', 0 < f → f < 4 → F_X12_twosFault (some 197) a (mk S I L R n') = some (nI f, mk S I L R n') → F_X12_crossed (some 197) a b (mk S I L R n') = some (0, mk S (up2 I 197 4 (nI f)) L R n') := fun f n' hf hf4 h => by
    unfold F_X12_crossed F_X12_crossed_41
    rw [cv_197 hs, h, b2_some, pi_197_4 hs, Option.bind_some, gi_197_4 hs, Option.bind_some, up2_self, if_neg (show ¬ nI f = 0 from fun z => by have := (nI_eq (b := 0) (by omega) (by omega)).mp z; omega), Option.bind_some, if_neg (show ¬ nI f ≤ 0 from fun z => absurd z (show ¬ nI f ≤ nI 0 from nI_ge hf (by omega)))]
  rcases x_told hC a with ⟨ha, ht⟩ | ⟨t, ht4, rfl, ⟨hn, ht⟩ | ⟨so, ma, nu, hq, ht⟩⟩
  · refine pk_thr (t := 1) (by decide) hl hC hR hG (L_crossed_1 hs (S' := S) (I' := I) (L' := L) (R' := R) (n' := (n.1 + 1, n.2 + 6)) ?_) (bad 1 _ (by decide) (by decide) ?_)
    · unfold F_X11_crossed; rw [cv_128 hs, ht, b3_thr2]; rfl
    · unfold F_X12_twosFault; rw [cv_197 hs, e_trayNo hs ha, b2_some, if_neg (by decide)]; rfl
  · have hm := hR.2.2.2.1 t ht4
    rw [hn] at hm
    refine pk_thr (t := 2) (by decide) hl hC hR hG (L_crossed_2 hs (S' := S) (I' := I) (L' := L) (R' := R) (n' := (n.1 + 1, n.2 + 6)) ?_) (bad 2 _ (by decide) (by decide) ?_)
    · unfold F_X11_crossed; rw [cv_128 hs, ht, b3_thr2]; rfl
    · unfold F_X12_twosFault; rw [cv_197 hs, e_tray hs ht4, if_pos hm, b2_some, if_neg (by decide)]; rfl
  · have hT := tr_ref hR ht4 hq
    have hf := fun n I L (hT : RTl t ma nu I L) (h1 : I 198 1 = nI (pW w.1)) => e_twosFault (R := R) (S := S) (n := n) hs hT h1
    by_cases h2 : r2 (pW w.1) ma nu = true
    · obtain ⟨d1, d2, d3, d4, d5⟩ := r2_d hP h2
      obtain ⟨x1, x2, x3⟩ := x_tray hC ht4 hq
      have ediv : nI ma / (2 : Int32) - 1 = nI (ma / 2 - 1) := by rw [show (2 : Int32) = nI 2 from rfl, nI_div (by omega) (by omega) (by omega), nI_sub1 (by omega)]
      have eW : ∀ h, F_X12_within b.toInt64 0 (nI (ma / 2 - 1)).toInt64 h = some (b2i (wI b 0 (nI (ma / 2 - 1))), h) := fun h => e_in b 0 (nI (ma / 2 - 1)) h
      by_cases h3 : wI b 0 (nI (ma / 2 - 1)) = true
      · obtain ⟨j, hj1, hj2, rfl⟩ := (wI_iff (lo := 0) (hi := ma / 2 - 1) (by decide) (by omega)).mp h3
        obtain ⟨-, g3, g4, F, T, A, D, M, hB, hM, hgo⟩ := hG.opn
        have hB' := hB.congr (fun j hj => x_cells hC hj)
        obtain ⟨I1, q1, q2, q3⟩ := c_seekX (L := L) (n := n) hs hP hw hb hpl hB' (by omega) ht4 (m := ma / 2) d1 (by omega) (by omega) x3 d4 hp rfl x2
        obtain ⟨y, hy⟩ : ∃ y, y = eX (qX (I 174) F (lnv nu)) (ma / 2) w.2.1.1 (gdX (w.1, w.2.1.1, I 174, A, M) (qX (I 174) F (lnv nu)) (ma / 2)) (ma / 2) 0 (fun _ => 0) (0, fun _ => 0) := ⟨_, rfl⟩
        have hyle : y.1 ≤ 1000 := by
          rw [hy]
          refine Nat.le_trans (eX_le _ _ _ _) ?_
          have h1 : w.2.1.1 ^ (ma / 2) ≤ 10 ^ (ma / 2) := Nat.pow_le_pow_left hB'.1.1 _
          have h2 : 10 ^ (ma / 2) ≤ 10 ^ 3 := Nat.pow_le_pow_right (by decide) (by omega)
          show 0 + _ ≤ _
          omega
        rw [← hy] at q2
        have kk : ∀ a, 197 ≤ a → a ≤ 220 → I1 a = I a := fun a z1 z2 => q3 a (by omega) (hs.nst hw (by omega) z2)
        obtain ⟨v, hv⟩ : ∃ v, v = if y.1 = 0 then -1 else nI (y.2 j) := ⟨_, rfl⟩
        have hx : F_X11_crossed (some 128) (nI t) (nI j) (mk S I L R n) = some (.inr v, mk S I1 L R n) := by
          unfold F_X11_crossed F_X2_firstOf F_X2_firstOf_25 F_X2_firstOf_26
          rw [cv_128 hs, ht, b3_some, cv_128 hs, x_twos hC hP ht4 hq, if_pos h2, b3_some, tr_v hs ht4, c_many hs ht4 x1 x2, b2_some, ediv, x_within hC, if_pos h3, b3_some, gr_128_12 hs, Option.bind_some, gr_128_5 hs, Option.bind_some, cv_146 hs, q1, Option.bind_some, gr_128_12 hs, Option.bind_some, cv_146 hs, gi_146_5 hs, Option.bind_some, q2.1, hv]
          by_cases e0 : y.1 = 0
          · rw [if_pos (by rw [e0]; decide), b2_some, if_pos e0]
          · rw [if_neg (show ¬ nI y.1 ≤ 0 from fun z => absurd z (show ¬ nI y.1 ≤ nI 0 from nI_ge (by omega) (by omega))), if_neg (nI_pos (by omega)), if_neg (show ¬ (3 : Int32) ≤ nI j from nI_ge (b := 3) (by omega) (by omega)), gr_146_4 hs, Option.bind_some, show aI (mk S I1 L R n) (some 156) 0 (nI j) = some (I1 156 j) from mk_aJ0 (S_156 hs) (by omega) (by decide), Option.bind_some, q2.2 e0 j (by omega), b2_some, if_neg e0]
        have hT1 : RTl t ma nu (up2 I1 197 4 0) (up2 L 220 0 v.toInt64) := (hT.out _).cg (by rw [up2_ne _ _ _ (by decide), kk _ (by decide) (by decide)]) (by rw [up2_ne _ _ _ (by decide), kk _ (by decide) (by decide)])
        obtain ⟨I2, m1, m2, m3, m4⟩ := e_crossAll (L := up2 L 220 0 v.toInt64) (n := n) hs hP hB' (by omega) (t := t) d1 (by omega) d4 (I := up2 I1 197 4 0) (by rw [up2_ne _ _ _ (by decide), kk _ (by decide) (by decide)]; exact hRP) (by rw [up2_ne _ _ _ (by decide), kk _ (by decide) (by decide)]; exact hRB) hT1 (fun j hj => by rw [up2_ne _ _ _ (by decide), kk _ (by decide) (by decide)]; exact hR.2.2.2.2.2 j hj)
        rw [← hy] at m2
        have sc : scQ I1 I2 := scQ.m4.tr m3
        refine pk_val hl hC hR hG (L_crossed_0 hs hs hx) (fun x q z => q3 x (fun u => q (by unfold scr; omega)) z) (fun _ _ => rfl) ⟨rfl, rfl⟩ (I'' := I2) ?_ (by rw [m4, up2_self]) sc.fr sc.inv
        unfold F_X12_crossed F_X12_crossed_41 F_X12_crossed_78
        rw [cv_197 hs, hf _ _ _ ((hT.out v.toInt64).cg (kk _ (by decide) (by decide)) (kk _ (by decide) (by decide))) (by rw [kk _ (by decide) (by decide)]; exact hRP.2.1), if_pos h2, b2_some, pi_197_4 hs, Option.bind_some, gi_197_4 hs, Option.bind_some, up2_self, if_pos rfl, gr_197_46 hs, Option.bind_some, ai_218 hs ht4, Option.bind_some, hT1.2.2.2.1, ediv, eW, b2_some, h3, if_neg (show ¬ b2i true = 0 by decide), gi_197_4 hs, Option.bind_some, up2_self, if_pos (by decide), pi_197_33 hs, Option.bind_some, cv_197 hs, m1, Option.bind_some, gi_197_33 hs, Option.bind_some, m2.1, hv]
        by_cases e0 : y.1 = 0
        · rw [if_pos (by rw [e0]; rfl), if_pos e0]
        · rw [if_neg (show ¬ nI y.1 = 0 from fun z => e0 ((nI_eq (b := 0) (by omega) (by omega)).mp z)), gr_197_32 hs, Option.bind_some, ai_210 hs (by omega), Option.bind_some, m2.2 e0 j (by omega), if_neg e0]
      · refine pk_thr (t := 3) (by decide) hl hC hR hG (L_crossed_3 hs (S' := S) (I' := I) (L' := L) (R' := R) (n' := (n.1 + 1, n.2 + 6)) ?_) (v := 0) ?_
        · unfold F_X11_crossed; rw [cv_128 hs, ht, b3_some, cv_128 hs, x_twos hC hP ht4 hq, if_pos h2, b3_some, tr_v hs ht4, c_many hs ht4 x1 x2, b2_some, ediv, x_within hC, if_neg h3, b3_thr2]; rfl
        · have hT1 := hT.m4 0
          unfold F_X12_crossed F_X12_crossed_41
          rw [cv_197 hs, hf _ _ _ hT hRP.2.1, if_pos h2, b2_some, pi_197_4 hs, Option.bind_some, gi_197_4 hs, Option.bind_some, up2_self, if_pos rfl, gr_197_46 hs, Option.bind_some, ai_218 hs ht4, Option.bind_some, hT1.2.2.2.1, ediv, eW, b2_some, b2i_ne h3, if_pos rfl, pi_197_4 hs, Option.bind_some, gi_197_4 hs, Option.bind_some, up2_self, if_neg (by decide), show up2 (up2 I 197 4 0) 197 4 3 = up2 I 197 4 3 by funext b j; simp only [up2]; split <;> rfl]
    · refine pk_thr (t := 3) (by decide) hl hC hR hG (L_crossed_3 hs (S' := S) (I' := I) (L' := L) (R' := R) (n' := (n.1 + 1, n.2 + 6)) ?_) (bad 3 _ (by decide) (by decide) ?_)
      · unfold F_X11_crossed; rw [cv_128 hs, ht, b3_some, cv_128 hs, x_twos hC hP ht4 hq, if_neg h2, b3_thr2]; rfl
      · rw [hf _ _ _ hT hRP.2.1, if_neg h2]; rfl
