/-! write, copy -/
section WR
variable {S : mkS} {I : mkI} {L : mkL} {R : mkR} {n : Nat × Nat}
theorem c_put (hs : St S R) {t so ma : Nat} (ht : t < 4) (hso : so < 4) (hm : ma ≤ 30) (h1 : I (189 + 2 * t) 1 = nI so) (h2 : I (189 + 2 * t) 2 = nI ma) {j : Nat} (hj : j < ma) (v : Int64) : F_X10_put (some (189 + 2 * t)) (nI j) v (mk S I L R n) = some (mk S I (up2 L (190 + 2 * t) j (cutv so v)) R n) := by
  obtain ⟨t1, t2, t3, -⟩ := tr_S hs ht
  have ec : F_X10_cut (some (189 + 2 * t)) v (mk S I L R n) = some (cutv so v, mk S I L R n) := by
    unfold F_X10_cut cutv
    rw [mk_gI (c := 10) (k := 1) (by rw [t1]) rfl, Option.bind_some, h1]
    rcases (show so = 0 ∨ so = 1 ∨ so = 2 ∨ so = 3 by omega) with rfl | rfl | rfl | rfl <;> rfl
  unfold F_X10_put F_X10_put_23
  rw [if_neg (nI_pos (by omega)), tr_v hs ht, c_many hs ht hm h2, b2_some, if_neg (nI_ge hj (by omega)), mk_gR (c := 10) (k := 0) (by rw [t1]) rfl, Option.bind_some, t2, tr_v hs ht, ec, b2_some, mk_sL t3 (nI_pos (by omega)) (by rw [nI_clamp (by omega)]; omega) (by omega), Option.bind_some, nI_clamp (by omega)]
theorem e_cut (hs : St S R) {t so : Nat} (ht : t < 4) (hso : so < 4) (h1 : I 217 t = nI so) {j : Nat} (hj : j < 30) (v : Int64) : F_X12_cut (some 197) (nI t) (nI j) v (mk S I L R n) = some (cutv so v, mk S I (up2 L 219 (30 * t + j) (cutv so v)) R n) := by
  have e9 : (30 : Int32) * nI t + nI j = nI (30 * t + j) := by
    rw [show (30 : Int32) = nI 30 from rfl, nI_mul9, nI_add]
  have ec : (v <<< (((64 : Int32) - ((8 : Int32) <<< (nI so &&& 31))).toInt64 &&& 63)) >>> (((64 : Int32) - ((8 : Int32) <<< (nI so &&& 31))).toInt64 &&& 63) = cutv so v := cut_eq hso v
  unfold F_X12_cut
  rw [gr_197_45 hs, Option.bind_some, ai_217 hs ht, Option.bind_some, gr_197_47 hs, Option.bind_some, h1, ec, e9, mk_sL (S_219 hs) (nI_pos (by omega)) (by rw [nI_clamp (by omega)]; omega) (by decide), Option.bind_some, gr_197_47 hs, Option.bind_some, mk_aL (S_219 hs) (nI_pos (by omega)) (by rw [nI_clamp (by omega)]; omega), Option.bind_some, nI_clamp (by omega), up2_self]
end WR
/-- a tray that is written to, on both sides -/
theorem CTr.up {tr : TR} {I : mkI} {L L' : mkL} (h : CTr tr I L) {t so ma : Nat} {nu nu' : Nat → Int64} (ht : t < 4) (hq : tr t = some (so, ma, nu)) (h1 : ∀ j, j < ma → L' (190 + 2 * t) j = nu' j) (h2 : ∀ b, b ≠ 190 + 2 * t → L' b = L b) : CTr (trUp tr t (so, ma, nu')) I L' := by
  intro s hs4
  unfold trUp
  by_cases e : s = t
  · subst e
    rw [if_pos rfl]
    have := h s hs4
    rw [hq] at this
    obtain ⟨z1, z2, z3, z4, -⟩ := this
    exact ⟨z1, z2, z3, z4, h1⟩
  · rw [if_neg e]
    have := h s hs4
    rw [h2 _ (by omega)]
    exact this
theorem RTr.up {tr : TR} {I : mkI} {L L' : mkL} (h : RTr tr I L) {t so ma : Nat} {nu nu' : Nat → Int64} (ht : t < 4) (hq : tr t = some (so, ma, nu)) (h1 : ∀ j, j < ma → L' 219 (30 * t + j) = nu' j) (h2 : ∀ i, i < 30 * t ∨ 30 * t + 30 ≤ i → L' 219 i = L 219 i) : RTr (trUp tr t (so, ma, nu')) I L' := by
  intro s hs4
  unfold trUp
  by_cases e : s = t
  · subst e
    rw [if_pos rfl]
    have := h s hs4
    rw [hq] at this
    obtain ⟨z1, z2, z3, z4, -⟩ := this
    exact ⟨z1, z2, z3, z4, h1⟩
  · rw [if_neg e]
    have := h s hs4
    revert this
    cases tr s with
    | none => exact id
    | some q =>
      obtain ⟨so9, ma9, nu9⟩ := q
      rintro ⟨z1, z2, z3, z4, z5⟩
      exact ⟨z1, z2, z3, z4, fun j hj => by rw [h2 _ (by omega)]; exact z5 j hj⟩
theorem RTr.eq {tr : TR} {I I' : mkI} {L : mkL} (h : RTr tr I L) (h1 : I' 217 = I 217) (h2 : I' 218 = I 218) : RTr tr I' L := by
  unfold RTr at *; rw [h1, h2]; exact h
theorem CTr.eq {tr : TR} {I I' : mkI} {L : mkL} (h : CTr tr I L) (h1 : ∀ t, t < 4 → I' (189 + 2 * t) = I (189 + 2 * t)) : CTr tr I' L := fun t ht => by
  have := h t ht; rw [h1 t ht]; exact this
theorem k_write (Ls : Nat) (xs : Nat → Int32) (a b : Int32) (v : Int64) : GoodL Ls xs (F_L_write (some 128) a b v (some 220)) (F_X12_write (some 197) a b v) := by
  intro k S I L R n ⟨hl, tb, tn, fk, fp, w, tr, im, hC, hR, hG⟩
  have hs := hC.1.1
  have thr9 : ∀ t : Int32, t ≠ 0 → F_L_write (some 128) a b v (some 220) (mk S I L R n) = some (t, mk S I L R (n.1 + 1, n.2 + 6)) → ∀ z, F_X12_write (some 197) a b v (mk S I L R (n.1 + 1, n.2 + 6)) = some (z, mk S (up2 I 197 4 t) L R (n.1 + 1, n.2 + 6)) → ∃ t v' S' I' L' R' n' I'' L'', F_L_write (some 128) a b v (some 220) (mk S I L R n) = some (t, mk S' I' L' R' n') ∧ (t = 0 → L' 220 0 = v') ∧ F_X12_write (some 197) a b v (mk S' I' L' R' n') = some (v', mk S' I'' L'' R' n') ∧ I'' 197 4 = t ∧ L'' 220 0 = L' 220 0 ∧ AllK Ls xs k S' I' I'' L'' R' n' := fun t ht h1 z h2 =>
    ⟨t, z, S, I, L, R, _, up2 I 197 4 t, L, h1, fun q => absurd q ht, h2, up2_self _ _ _ _, rfl, AllInv.of hl FrC.rf (FrR.up (by decide)) hC.exc (hR.m4 t) hG.le⟩
  rcases x_told hC a with ⟨ha, ht⟩ | ⟨t, ht4, rfl, ⟨hn, ht⟩ | ⟨so, ma, nu, hq, ht⟩⟩
  · refine thr9 1 (by decide) (L_write_1 hs (n' := (n.1 + 1, n.2 + 6)) (S' := S) (I' := I) (L' := L) (R' := R) ?_) 0 ?_
    · unfold F_X11_write; rw [cv_128 hs, ht, b3_thr2]; rfl
    · unfold F_X12_write
      rw [cv_197 hs, e_trayNo hs ha, b2_some, pi_197_4 hs, Option.bind_some, gi_197_4 hs, Option.bind_some, up2_self, if_neg (by decide)]
  · have hm := hR.2.2.2.1 t ht4
    rw [hn] at hm
    refine thr9 2 (by decide) (L_write_2 hs (n' := (n.1 + 1, n.2 + 6)) (S' := S) (I' := I) (L' := L) (R' := R) ?_) 0 ?_
    · unfold F_X11_write; rw [cv_128 hs, ht, b3_thr2]; rfl
    · unfold F_X12_write
      rw [cv_197 hs, e_tray hs ht4, b2_some, if_pos hm, pi_197_4 hs, Option.bind_some, gi_197_4 hs, Option.bind_some, up2_self, if_neg (by decide)]
  · have hm := hR.2.2.2.1 t ht4
    have hc := hC.2.2.2.2.1 t ht4
    rw [hq] at hm hc
    obtain ⟨c1, c2, c3, c4, c5⟩ := hc
    obtain ⟨-, -, m3, m4, m5⟩ := hm
    have nm1 : ¬ I 217 t = -1 := by rw [m3]; exact nI_nm1 (by omega)
    have hx : F_X11_write (some 128) (nI t) b v (mk S I L R n) = if isL ma b = true then ((F_X10_put (some (189 + 2 * t)) b v (mk S I L R n)).bind fun h35 => mm_b2 (cV h35 (some (189 + 2 * t)) 10 (F_X10_at (some (189 + 2 * t)) b h35)) fun v41 h41 => some (.inr v41, h41)) else thr "java/lang/IndexOutOfBoundsException" S I L R n := by
      have := if_isL ma b (thr "java/lang/IndexOutOfBoundsException" S I L R n : Option ((String ⊕ Int64) × MH)) ((F_X10_put (some (189 + 2 * t)) b v (mk S I L R n)).bind fun h35 => mm_b2 (cV h35 (some (189 + 2 * t)) 10 (F_X10_at (some (189 + 2 * t)) b h35)) fun v41 h41 => some (.inr v41, h41))
      rw [← this]
      unfold F_X11_write F_X11_write_20
      rw [cv_128 hs, ht, b3_some, tr_v hs ht4, c_many hs ht4 c2 c4, b2_some, hC.thr, tr_v hs ht4]
      rfl
    have er : ∀ L n, F_X12_write (some 197) (nI t) b v (mk S I L R n) = if isL ma b = true then (mm_b2 (F_X12_cut (some 197) (nI t) b v (mk S (up2 I 197 4 0) L R n)) fun v40 h40 => some (v40, h40)) else (mm_b2 (F_X12_fails (some 197) 3 (mk S (up2 I 197 4 0) L R n)) fun v48 h48 => some (v48.toInt64, h48)) := fun L n => by
      have m4' : up2 I 197 4 0 218 t = nI ma := by rw [up2_ne _ _ _ (by decide)]; exact m4
      unfold F_X12_write F_X12_write_52
      rw [cv_197 hs, e_tray hs ht4, b2_some, if_neg nm1, pi_197_4 hs, Option.bind_some, gi_197_4 hs, Option.bind_some, up2_self, if_pos (by decide), gr_197_46 hs, Option.bind_some, ai_218 hs ht4, Option.bind_some, m4', e_within, b2_some, inL_isL (by omega)]
      by_cases z : isL ma b = true
      · rw [z, if_neg (by decide), if_pos rfl, cv_197 hs]
      · rw [if_pos (by rw [b2i_0]; simpa using z), if_neg z, cv_197 hs]
    by_cases h1 : isL ma b = true
    · obtain ⟨j, hj, rfl⟩ := (isL_iff (by omega)).mp h1
      obtain ⟨y, hy⟩ : ∃ y, y = cutv so v := ⟨_, rfl⟩
      obtain ⟨L1, hL1⟩ : ∃ L1, L1 = up2 L (190 + 2 * t) j y := ⟨_, rfl⟩
      have hx' : F_X11_write (some 128) (nI t) (nI j) v (mk S I L R n) = some (.inr y, mk S I L1 R n) := by
        rw [hx, if_pos h1, c_put hs ht4 c1 c2 c3 c4 hj, ← hy, ← hL1, Option.bind_some, tr_v hs ht4, c_at hs ht4 c2 c4 hj, b2_some, hL1, up2_self]
      have kL : ∀ b, b ≠ 190 + 2 * t → L1 b = L b := fun b hb => by rw [hL1, up2_ne _ _ _ hb]
      have fC : FrC S S I I L L1 R R := ⟨fun _ _ => ⟨rfl, rfl, rfl⟩, fun a q => kL a (by omega)⟩
      have hT : CTr (trUp tr t (so, ma, up1 nu j y)) I L1 := hC.2.2.2.2.1.up ht4 hq (fun i hi => by
        rw [hL1, up2_row]
        by_cases e : i = j
        · subst e; rw [up1_self, up1_self]
        · rw [up1_ne _ _ e, up1_ne _ _ e]; exact c5 i hi) kL
      have hC1 : InvC tb tn fk fp w (trUp tr t (so, ma, up1 nu j y)) im k S I L1 R n := hC.le.trs (fun _ _ _ _ => rfl) (fun _ _ => rfl) ⟨rfl, rfl⟩ hT
      have hC2 := hC1.out 0 y
      have hR1 := hR.ofC (fC.out 0 y)
      obtain ⟨L2, hL2⟩ : ∃ L2, L2 = up2 (up2 L1 220 0 y) 219 (30 * t + j) y := ⟨_, rfl⟩
      have hR2 : InvR tb tn fk fp w (trUp tr t (so, ma, up1 nu j y)) im (up2 I 197 4 0) L2 := by
        refine hR1.trs (fun a q1 _ _ _ _ _ _ => up2_ne _ _ _ q1) (fun j hj => by rw [up2_row, up1_ne _ _ (by omega)]) ?_
        refine (RTr.eq (hR1.2.2.2.1.up ht4 hq (L' := L2) (fun i hi => ?_) (fun i hi => ?_)) (up2_ne _ _ _ (by decide)) (up2_ne _ _ _ (by decide)))
        · rw [hL2, up2_row]
          by_cases e : i = j
          · subst e; rw [up1_self, up1_self]
          · rw [up1_ne _ _ (by omega), up1_ne _ _ e, up2_ne _ _ _ (by decide), kL _ (by show (219 : Nat) ≠ 190 + 2 * t; omega)]; exact m5 i hi
        · rw [hL2, up2_row, up1_ne _ _ (by omega)]
      refine ⟨0, y, S, I, up2 L1 220 0 y, R, n, up2 I 197 4 0, L2, L_write_0 hs hs hx', fun _ => up2_self _ _ _ _, ?_, up2_self _ _ _ _, by rw [hL2, up2_ne _ _ _ (by decide)], AllInv.of hl (fC.out 0 y) (fun a q => ⟨up2_ne _ _ _ (by show a ≠ 197; omega), by rw [hL2, up2_ne _ _ _ (by show a ≠ 219; omega)]⟩) hC2 hR2 hG.le⟩
      rw [er, if_pos h1, e_cut hs ht4 c1 (by rw [up2_ne _ _ _ (by decide)]; exact m3) (by omega), ← hy, ← hL2, b2_some]
    · rw [if_neg h1] at hx
      refine thr9 3 (by decide) (L_write_3 hs hx) 0 ?_
      rw [er, if_neg h1]
      unfold F_X12_fails
      rw [pi_197_4 hs, Option.bind_some, b2_some]
      refine congrArg (fun q => some ((0 : Int32).toInt64, mk S q L R (n.1 + 1, n.2 + 6))) (funext fun b => funext fun j => ?_)
      simp only [up2]; split <;> rfl
