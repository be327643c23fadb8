/-! rules, rule, ask: both sides -/
section KR
variable {S : mkS} {I : mkI} {L : mkL} {R : mkR} {n : Nat × Nat} {tb : Nat → Nat} {tn : Nat} {fk fp : Int32} {w : WD} {tr : TR} {im : IM} {k : Nat}
theorem tr_ref (hR : InvR tb tn fk fp w tr im I L) {t so ma : Nat} {nu : Nat → Int64} (ht : t < 4) (hq : tr t = some (so, ma, nu)) : RTl t ma nu I L := by
  have := hR.2.2.2.1 t ht
  rw [hq] at this
  obtain ⟨a1, a2, a3, a4, a5⟩ := this
  exact ⟨ht, a2, by rw [a3]; exact nI_nm1 (by omega), a4, a5⟩
theorem RTl.m4 {t ma : Nat} {nu : Nat → Int64} (h : RTl t ma nu I L) (x : Int32) : RTl t ma nu (up2 I 197 4 x) L := by
  obtain ⟨t1, t2, t3, t4, t5⟩ := h
  exact ⟨t1, t2, by rw [up2_ne _ _ _ (by decide)]; exact t3, by rw [up2_ne _ _ _ (by decide)]; exact t4, t5⟩
theorem scL.m4 {I I' : mkI} (h : scL I I') : I' 197 4 = I 197 4 := h.2 4 (by decide)
/-- the reference's tray fault where there is none such, or it is missing -/
theorem e_rfNo (hs : St S R) {a : Int32} (ha : isL 4 a = false) : F_X12_rulesFault (some 197) a (mk S I L R n) = some (1, mk S I L R n) := by
  unfold F_X12_rulesFault
  rw [cv_197 hs, e_trayNo hs ha, b2_some, if_neg (by decide)]
theorem e_rfMiss (hs : St S R) {t : Nat} (ht : t < 4) (h : I 217 t = -1) : F_X12_rulesFault (some 197) (nI t) (mk S I L R n) = some (2, mk S I L R n) := by
  unfold F_X12_rulesFault
  rw [cv_197 hs, e_tray hs ht, if_pos h, b2_some, if_neg (by decide)]
theorem lru_get {W q : Nat} {l : Nat → Nat} (h2 : W ≤ 8) (hs : St S R) (hU : LRu W l q I 80) {kk : Nat} (hk : kk < 2147483648) (H : Int32 → Option (Int32 × MH)) : (if I 197 43 ≤ nI kk then H (-1) else (gR (mk S I L R n) (some 197) 12 42).bind fun v48 => (aI (mk S I L R n) v48 0 (nI kk)).bind fun v52 => H v52) = H (if kk < (rF W l q 80).length then nI ((rF W l q 80).getD kk 0) else -1) := by
  have hlen : (rF W l q 80).length ≤ 64 := rF_len (q := q) (l := l) h2 8 0 (by omega) (by omega)
  rw [hU.1]
  by_cases e : kk < (rF W l q 80).length
  · rw [if_neg (nI_ge e (by omega)), gr_197_42 hs, Option.bind_some, ai_215 hs (by omega), Option.bind_some, hU.2 kk e, if_pos e]
  · rw [if_pos (nI_le (by omega) hk), if_neg e]
end KR
theorem k_rules (Ls : Nat) (xs : Nat → Int32) (a : Int32) : Good Ls xs (F_L_rules (some 128) a (some 220)) (F_X12_rules (some 197) a) := by
  intro k S I L R n ⟨hl, tb, tn, fk, fp, w, tr, im, hC, hR, hG⟩
  obtain ⟨hs, hb, ⟨p, hpl, hp⟩, ⟨c1, c2⟩, hP, hRP, hRB⟩ := inv_all hC hR hG
  have bad : ∀ (f : Int32) n', ¬ f ≤ 0 → F_X12_rulesFault (some 197) a (mk S I L R n') = some (f, mk S I L R n') → F_X12_rules (some 197) a (mk S I L R n') = some (0, mk S (up2 I 197 4 f) L R n') := fun f n' hf h => by
    unfold F_X12_rules
    rw [cv_197 hs, h, b2_some, pi_197_4 hs, Option.bind_some, gi_197_4 hs, Option.bind_some, up2_self, if_neg hf]
  rcases x_told hC a with ⟨ha, ht⟩ | ⟨t, ht4, rfl, ⟨hn, ht⟩ | ⟨so, ma, nu, hq, ht⟩⟩
  · refine pk_thr (t := 1) (by decide) hl hC hR hG (L_rules_1 hs (S' := S) (I' := I) (L' := L) (R' := R) (n' := (n.1 + 1, n.2 + 6)) ?_) (bad 1 _ (by decide) (e_rfNo hs ha))
    unfold F_X11_rules; rw [cv_128 hs, ht, b3_thr2]; rfl
  · have hm := hR.2.2.2.1 t ht4
    rw [hn] at hm
    refine pk_thr (t := 2) (by decide) hl hC hR hG (L_rules_2 hs (S' := S) (I' := I) (L' := L) (R' := R) (n' := (n.1 + 1, n.2 + 6)) ?_) (bad 2 _ (by decide) (e_rfMiss hs ht4 hm))
    unfold F_X11_rules; rw [cv_128 hs, ht, b3_thr2]; rfl
  · have hT := tr_ref hR ht4 hq
    have hf := fun n L (hT : RTl t ma nu I L) => e_rulesFault (R := R) (n := n) hs hT (hRP.2.1)
    by_cases h3 : r3 (pW w.1) ma nu = true
    · obtain ⟨v, hv⟩ : ∃ v, v = nI (rF (pW w.1) (lnv nu) (ma / 3) 80).length := ⟨_, rfl⟩
      have hx : F_X11_rules (some 128) (nI t) (mk S I L R n) = some (.inr v, mk S I L R n) := by
        unfold F_X11_rules
        rw [cv_128 hs, ht, b3_some, cv_128 hs, x_threes hC hP ht4 hq, if_pos h3, b3_some, hv]
        exact c_rulesL hC hP ht4 hq h3 80 mm_N 0 rfl (by unfold mm_N; decide)
      have hT2 : RTl t ma nu I (up2 L 220 0 v.toInt64) := by
        obtain ⟨t1, t2, t3, t4, t5⟩ := hT
        exact ⟨t1, t2, t3, t4, fun j hj => by rw [up2_ne _ _ _ (by decide)]; exact t5 j hj⟩
      obtain ⟨I', q1, q2, q3⟩ := e_lays (n := n) hs hP h3 (hT2.m4 0) (by rw [up2_ne _ _ _ (by decide)]; exact hRP.2.1)
      have sc : scQ I I' := scQ.m4.tr q2.q
      refine pk_val hl hC hR hG (L_rules_0 hs hs hx) (fun _ _ _ => rfl) (fun _ _ => rfl) ⟨rfl, rfl⟩ (I'' := I') ?_ (by rw [q2.m4, up2_self]) sc.fr sc.inv
      unfold F_X12_rules
      rw [cv_197 hs, hf _ _ hT2, if_pos h3, b2_some, pi_197_4 hs, Option.bind_some, gi_197_4 hs, Option.bind_some, up2_self, if_pos (by decide), cv_197 hs, q1, Option.bind_some, gi_197_43 hs, Option.bind_some, q3.1, hv]
    · refine pk_thr (t := 3) (by decide) hl hC hR hG (L_rules_3 hs (S' := S) (I' := I) (L' := L) (R' := R) (n' := (n.1 + 1, n.2 + 6)) ?_) (bad 3 _ (by decide) ?_)
      · unfold F_X11_rules; rw [cv_128 hs, ht, b3_some, cv_128 hs, x_threes hC hP ht4 hq, if_neg h3, b3_thr2]; rfl
      · rw [hf _ _ hT, if_neg h3]
theorem k_rule (Ls : Nat) (xs : Nat → Int32) (a b : Int32) : Good Ls xs (F_L_rule (some 128) a b (some 220)) (F_X12_rule (some 197) a b) := by
  intro k S I L R n ⟨hl, tb, tn, fk, fp, w, tr, im, hC, hR, hG⟩
  obtain ⟨hs, hb, ⟨p, hpl, hp⟩, ⟨c1, c2⟩, hP, hRP, hRB⟩ := inv_all hC hR hG
  have bad : ∀ (f : Int32) n', ¬ f ≤ 0 → ¬ f = 0 → F_X12_rulesFault (some 197) a (mk S I L R n') = some (f, mk S I L R n') → F_X12_rule (some 197) a b (mk S I L R n') = some (0, mk S (up2 I 197 4 f) L R n') := fun f n' hf hf2 h => by
    unfold F_X12_rule F_X12_rule_25
    rw [cv_197 hs, h, b2_some, pi_197_4 hs, Option.bind_some, gi_197_4 hs, Option.bind_some, up2_self, if_neg hf2, Option.bind_some, if_neg hf]
  rcases x_told hC a with ⟨ha, ht⟩ | ⟨t, ht4, rfl, ⟨hn, ht⟩ | ⟨so, ma, nu, hq, ht⟩⟩
  · refine pk_thr (t := 1) (by decide) hl hC hR hG (L_rule_1 hs (S' := S) (I' := I) (L' := L) (R' := R) (n' := (n.1 + 1, n.2 + 6)) ?_) (bad 1 _ (by decide) (by decide) (e_rfNo hs ha))
    unfold F_X11_rule; rw [cv_128 hs, ht, b3_thr2]; rfl
  · have hm := hR.2.2.2.1 t ht4
    rw [hn] at hm
    refine pk_thr (t := 2) (by decide) hl hC hR hG (L_rule_2 hs (S' := S) (I' := I) (L' := L) (R' := R) (n' := (n.1 + 1, n.2 + 6)) ?_) (bad 2 _ (by decide) (by decide) (e_rfMiss hs ht4 hm))
    unfold F_X11_rule; rw [cv_128 hs, ht, b3_thr2]; rfl
  · have hT := tr_ref hR ht4 hq
    have hf := fun n L (hT : RTl t ma nu I L) => e_rulesFault (R := R) (n := n) hs hT (hRP.2.1)
    by_cases h3 : r3 (pW w.1) ma nu = true
    · by_cases hb0 : 0 ≤ b
      · obtain ⟨kk, hkk, rfl⟩ : ∃ kk, kk < 2147483648 ∧ b = nI kk := by
          have h0 := Int32.le_iff_toInt_le.mp hb0
          have h1 := b.toInt_lt
          rw [show (0 : Int32).toInt = 0 by decide] at h0
          exact ⟨b.toInt.toNat, by omega, Int32.toInt_inj.mp (by rw [nI_toInt (by omega)]; omega)⟩
        obtain ⟨v, hv⟩ : ∃ v, v = if kk < (rF (pW w.1) (lnv nu) (ma / 3) 80).length then nI ((rF (pW w.1) (lnv nu) (ma / 3) 80).getD kk 0) else -1 := ⟨_, rfl⟩
        have hx : F_X11_rule (some 128) (nI t) (nI kk) (mk S I L R n) = some (.inr v, mk S I L R n) := by
          unfold F_X11_rule
          rw [cv_128 hs, ht, b3_some, cv_128 hs, x_threes hC hP ht4 hq, if_pos h3, b3_some, if_pos hb0, hv]
          exact c_ruleL hC hP ht4 hq h3 hkk 80 mm_N 0 rfl (by unfold mm_N; decide) (Nat.zero_le _) (Nat.zero_le _)
        have hT2 : RTl t ma nu I (up2 L 220 0 v.toInt64) := by
          obtain ⟨t1, t2, t3, t4, t5⟩ := hT
          exact ⟨t1, t2, t3, t4, fun j hj => by rw [up2_ne _ _ _ (by decide)]; exact t5 j hj⟩
        obtain ⟨I', q1, q2, q3⟩ := e_lays (n := n) hs hP h3 (hT2.m4 0) (by rw [up2_ne _ _ _ (by decide)]; exact hRP.2.1)
        have sc : scQ I I' := scQ.m4.tr q2.q
        refine pk_val hl hC hR hG (L_rule_0 hs hs hx) (fun _ _ _ => rfl) (fun _ _ => rfl) ⟨rfl, rfl⟩ (I'' := I') ?_ (by rw [q2.m4, up2_self]) sc.fr sc.inv
        have key := lru_get (L := up2 L 220 0 v.toInt64) (n := n) hP.2.1 hs q3 hkk (fun x => some (x, mk S I' (up2 L 220 0 v.toInt64) R n))
        rw [← hv] at key
        unfold F_X12_rule F_X12_rule_25 F_X12_rule_57
        rw [cv_197 hs, hf _ _ hT2, if_pos h3, b2_some, pi_197_4 hs, Option.bind_some, gi_197_4 hs, Option.bind_some, up2_self, if_pos rfl, if_pos hb0, Option.bind_some, if_pos (by decide), cv_197 hs, q1, Option.bind_some, gi_197_43 hs, Option.bind_some]
        exact key
      · refine pk_thr (t := 3) (by decide) hl hC hR hG (L_rule_3 hs (S' := S) (I' := I) (L' := L) (R' := R) (n' := (n.1 + 1, n.2 + 6)) ?_) (v := 0) ?_
        · unfold F_X11_rule; rw [cv_128 hs, ht, b3_some, cv_128 hs, x_threes hC hP ht4 hq, if_pos h3, b3_some, if_neg hb0, hC.thr]; rfl
        · unfold F_X12_rule F_X12_rule_25
          rw [cv_197 hs, hf _ _ hT, if_pos h3, b2_some, pi_197_4 hs, Option.bind_some, gi_197_4 hs, Option.bind_some, up2_self, if_pos rfl, if_neg hb0, pi_197_4 hs, Option.bind_some, gi_197_4 hs, Option.bind_some, up2_self, if_neg (by decide)]
          refine congrArg (fun q => some ((0 : Int32), mk S q L R (n.1 + 1, n.2 + 6))) (funext fun b => funext fun j => ?_)
          simp only [up2]; split <;> rfl
    · refine pk_thr (t := 3) (by decide) hl hC hR hG (L_rule_3 hs (S' := S) (I' := I) (L' := L) (R' := R) (n' := (n.1 + 1, n.2 + 6)) ?_) (bad 3 _ (by decide) (by decide) ?_)
      · unfold F_X11_rule; rw [cv_128 hs, ht, b3_some, cv_128 hs, x_threes hC hP ht4 hq, if_neg h3, b3_thr2]; rfl
      · rw [hf _ _ hT, if_neg h3]
theorem k_ask (Ls : Nat) (xs : Nat → Int32) (a : Int32) : Good Ls xs (F_L_ask (some 128) a (some 220)) (F_X12_ask (some 197) a) := by
  intro k S I L R n ⟨hl, tb, tn, fk, fp, w, tr, im, hC, hR, hG⟩
  obtain ⟨hs, hb, ⟨p, hpl, hp⟩, ⟨c1, c2⟩, hP, hRP, hRB⟩ := inv_all hC hR hG
  obtain ⟨-, -, -, F, T, A, D, M, hB, -, -⟩ := hG.opn
  have bad : ∀ (f : Int32) n', ¬ f ≤ 0 → F_X12_rulesFault (some 197) a (mk S I L R n') = some (f, mk S I L R n') → F_X12_ask (some 197) a (mk S I L R n') = some (0, mk S (up2 I 197 4 f) L R n') := fun f n' hf h => by
    unfold F_X12_ask
    rw [cv_197 hs, h, b2_some, pi_197_4 hs, Option.bind_some, gi_197_4 hs, Option.bind_some, up2_self, if_neg hf]
  rcases x_told hC a with ⟨ha, ht⟩ | ⟨t, ht4, rfl, ⟨hn, ht⟩ | ⟨so, ma, nu, hq, ht⟩⟩
  · refine pk_thr (t := 1) (by decide) hl hC hR hG (L_ask_1 hs (S' := S) (I' := I) (L' := L) (R' := R) (n' := (n.1 + 1, n.2 + 6)) ?_) (bad 1 _ (by decide) (e_rfNo hs ha))
    unfold F_X11_ask; rw [cv_128 hs, ht, b3_thr2]; rfl
  · have hm := hR.2.2.2.1 t ht4
    rw [hn] at hm
    refine pk_thr (t := 2) (by decide) hl hC hR hG (L_ask_2 hs (S' := S) (I' := I) (L' := L) (R' := R) (n' := (n.1 + 1, n.2 + 6)) ?_) (bad 2 _ (by decide) (e_rfMiss hs ht4 hm))
    unfold F_X11_ask; rw [cv_128 hs, ht, b3_thr2]; rfl
  · have hT := tr_ref hR ht4 hq
    have hf := fun I n L (hT : RTl t ma nu I L) (hK : I 198 1 = nI (pW w.1)) => e_rulesFault (R := R) (n := n) hs hT hK
    by_cases h3 : r3 (pW w.1) ma nu = true
    · obtain ⟨V1, V2, V3⟩ := hB.1
      have facts : ∀ d, d < w.2.1.1 → F d < pW w.1 ∧ T d < pW w.1 ∧ I 174 (11 + 7 * d) = nI (F d) ∧ I 174 (12 + 7 * d) = nI (T d) := fun d hd => by
        obtain ⟨⟨a1, a2⟩, ⟨b1, b2⟩, -⟩ := V3 d hd
        exact ⟨a2, b2, by rw [x_cells hC (by omega)]; exact a1, by rw [x_cells hC (by omega)]; exact b1⟩
      obtain ⟨I1, x1, x2⟩ := c_askL hP ht4 hq h3 (C := w.2.1.1) (F := F) (T := T) c1 w.2.1.1 mm_N 0 I (-1) 536870912 0 (by omega) (by show w.2.1.1 < 1000000; omega) hC c2 facts (.inl ⟨rfl, rfl⟩)
      obtain ⟨v, hv⟩ : ∃ v, v = if rF (pW w.1) (lnv nu) (ma / 3) 80 = [] then (-1 : Int32) else askF (moC (pW w.1) (lnv nu) (ma / 3) F T) w.2.1.1 0 (-1) 536870912 := ⟨_, rfl⟩
      rw [← hv] at x1
      have hx : F_X11_ask (some 128) (nI t) (mk S I L R n) = some (.inr v, mk S I1 L R n) := by
        unfold F_X11_ask
        rw [cv_128 hs, ht, b3_some, cv_128 hs, x_threes hC hP ht4 hq, if_pos h3, b3_some]
        exact x1
      have kx : ∀ a, 197 ≤ a → I1 a = I a := fun a ha => x2 a (by show a ≠ 162; omega)
      have hT2 : RTl t ma nu I1 (up2 L 220 0 v.toInt64) := by
        obtain ⟨t1, t2, t3, t4, t5⟩ := hT
        exact ⟨t1, t2, by rw [kx _ (by decide)]; exact t3, by rw [kx _ (by decide)]; exact t4, fun j hj => by rw [up2_ne _ _ _ (by decide)]; exact t5 j hj⟩
      have hK1 : I1 198 = I 198 := kx _ (by decide)
      obtain ⟨I', q1, q2, q3⟩ := e_lays (n := n) hs hP h3 (hT2.m4 0) (by rw [up2_ne _ _ _ (by decide), hK1]; exact hRP.2.1)
      have hK' : I' 198 = I 198 := by rw [q2.1 _ (by decide) (by decide), up2_ne _ _ _ (by decide), hK1]
      obtain ⟨-, -, -, r4, -, -, r7⟩ := hRB
      obtain ⟨I2, y1, y2⟩ := e_askL (L := up2 L 220 0 v.toInt64) (n := n) hs hP.1 hP.2.1 (C := w.2.1.1) (F := F) (T := T) c1 w.2.1.1 mm_N 0 I' (-1) 536870912 (by omega) (by show w.2.1.1 < 1000000; omega) (Nat.le_refl _) (by rw [hK']; exact hRP.2.1) (by rw [hK', r4, c2]) (fun d hd => by
        obtain ⟨a1, a2, a3, a4⟩ := facts d hd
        rw [hK']
        exact ⟨a1, a2, by rw [(r7 d hd).1, a3], by rw [(r7 d hd).2.1, a4]⟩) q3
      rw [← hv] at y1
      have sc : scQ I1 I2 := (scQ.m4.tr q2.q).tr ⟨fun a _ _ _ _ q5 => y2 a (by show a ≠ 216; omega), fun j _ => by rw [y2 197 (by decide)]⟩
      refine pk_val hl hC hR hG (L_ask_0 hs hs hx) (fun x hx _ => x2 x (fun q => hx (by rw [q]; unfold scr; decide))) (fun _ _ => rfl) ⟨rfl, rfl⟩ (I'' := I2) ?_ (by rw [y2 _ (by decide), q2.m4, up2_self]) sc.fr sc.inv
      unfold F_X12_ask
      rw [cv_197 hs, hf _ _ _ hT2 (by rw [hK1]; exact hRP.2.1), if_pos h3, b2_some, pi_197_4 hs, Option.bind_some, gi_197_4 hs, Option.bind_some, up2_self, if_pos (by decide), cv_197 hs, q1, Option.bind_some]
      exact y1
    · refine pk_thr (t := 3) (by decide) hl hC hR hG (L_ask_3 hs (S' := S) (I' := I) (L' := L) (R' := R) (n' := (n.1 + 1, n.2 + 6)) ?_) (bad 3 _ (by decide) ?_)
      · unfold F_X11_ask; rw [cv_128 hs, ht, b3_some, cv_128 hs, x_threes hC hP ht4 hq, if_neg h3, b3_thr2]; rfl
      · rw [hf _ _ _ hT hRP.2.1, if_neg h3]
