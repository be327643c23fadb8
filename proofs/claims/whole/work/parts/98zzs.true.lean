/-! the law is true -/
theorem lk8g {ca : Nat} {ri : BI'} {d : Nat} (j : Nat) : lkI ([(ca, d, -1), (ca, d + 1, -1), (ca, d + 2, -1), (ca, d + 3, -1), (ca, d + 4, -1), (ca, d + 5, -1), (ca, d + 6, -1), (ca, d + 7, -1)] ++ ri) ca j = if d ≤ j ∧ j < d + 8 then -1 else lkI ri ca j := by
  simp only [List.cons_append, List.nil_append, lkI, true_and]
  by_cases e : d ≤ j ∧ j < d + 8
  · rw [if_pos e]
    rcases (show j = d ∨ j = d + 1 ∨ j = d + 2 ∨ j = d + 3 ∨ j = d + 4 ∨ j = d + 5 ∨ j = d + 6 ∨ j = d + 7 by omega) with h | h | h | h | h | h | h | h
    · rw [if_pos h]
    · rw [if_neg (by omega), if_pos h]
    · rw [if_neg (by omega), if_neg (by omega), if_pos h]
    · rw [if_neg (by omega), if_neg (by omega), if_neg (by omega), if_pos h]
    · rw [if_neg (by omega), if_neg (by omega), if_neg (by omega), if_neg (by omega), if_pos h]
    · rw [if_neg (by omega), if_neg (by omega), if_neg (by omega), if_neg (by omega), if_neg (by omega), if_pos h]
    · rw [if_neg (by omega), if_neg (by omega), if_neg (by omega), if_neg (by omega), if_neg (by omega), if_neg (by omega), if_pos h]
    · rw [if_neg (by omega), if_neg (by omega), if_neg (by omega), if_neg (by omega), if_neg (by omega), if_neg (by omega), if_neg (by omega), if_pos h]
  · rw [if_neg e, if_neg (by omega), if_neg (by omega), if_neg (by omega), if_neg (by omega), if_neg (by omega), if_neg (by omega), if_neg (by omega), if_neg (by omega)]
def shF : BS := (220, 2, 1) :: sh12
def riF : BI' := [(198, 38, -1), (198, 39, -1), (198, 40, -1), (198, 41, -1), (198, 42, -1), (198, 43, -1), (198, 44, -1), (198, 45, -1)] ++ ri12
/-- before anything is made -/
def zS (Ls : Nat) : mkS := fun a => if a < 51 then (22, 0) else if 64 ≤ a ∧ a < 115 then (3, (mm_byt (a - 64)).length) else if a = 121 then (8, Ls) else (0, 0)
def zI (xs : Nat → Int32) : mkI := fun a j => if a < 51 then 0 else if 64 ≤ a ∧ a < 115 then (mm_byt (a - 64)).getD j 0 else if a = 121 then xs j else 0
def zR : mkR := fun a j => if a < 51 ∧ j = 0 then some (64 + a) else none
theorem h0_mk (Ls : Nat) (xs : Nat → Int32) : mm_h0 Ls xs = mk (zS Ls) (zI xs) (fun _ _ => 0) zR (128, 3093034) := by
  unfold mm_h0 mk
  refine congrArg (fun f => (f, 128, 3093034)) (funext fun a => ?_)
  by_cases e1 : a < 51
  · rw [if_neg (by omega)]
    have hS : zS Ls a = (22, 0) := by unfold zS; rw [if_pos e1]
    have hI : zI xs a 1 = 0 := by unfold zI; rw [if_pos e1]
    have hR : zR a 0 = some (64 + a) := by unfold zR; rw [if_pos ⟨e1, rfl⟩]
    unfold mm_ext
    rw [if_pos e1, hS, mkC_o (c := 13) _ _ _ _ rfl]
    show _ = Sum.inr (some (13, [va_rf (zR a 0), Value.int (zI xs a 1)]))
    rw [hR, hI]
    rfl
  · by_cases e2 : 64 ≤ a ∧ a < 115
    · rw [if_neg (by omega)]
      have hS : zS Ls a = (3, (mm_byt (a - 64)).length) := by unfold zS; rw [if_neg e1, if_pos e2]
      have hI : zI xs a = fun j => (mm_byt (a - 64)).getD j 0 := by funext j; unfold zI; rw [if_neg e1, if_pos e2]
      unfold mm_ext
      rw [if_neg e1, if_pos e2, hS, hI]
      rfl
    · by_cases e3 : a = 121
      · have hS : zS Ls a = (8, Ls) := by unfold zS; rw [if_neg e1, if_neg e2, if_pos e3]
        have hI : zI xs a = xs := by funext j; unfold zI; rw [if_neg e1, if_neg e2, if_pos e3]
        rw [if_pos e3, hS, hI]
        rfl
      · have hS : zS Ls a = (0, 0) := by unfold zS; rw [if_neg e1, if_neg e2, if_neg e3]
        unfold mm_ext
        rw [if_neg e3, if_neg e1, if_neg e2, hS]
        rfl
theorem z_bd (Ls : Nat) (xs : Nat → Int32) : Bd 128 [] [] [] (zS Ls, zI xs, zR) (zS Ls) (zI xs) zR := ⟨⟨Nat.le_refl _, fun _ _ => ⟨rfl, rfl, rfl⟩⟩, fun a ha => by unfold zS; rw [if_neg (by omega), if_neg (by omega), if_neg (by omega)], fun q hq => (List.not_mem_nil hq).elim, fun a k h1 h2 => absurd h2 (by omega), fun q hq => (List.not_mem_nil hq).elim, fun q hq => (List.not_mem_nil hq).elim⟩
theorem all_0 {Ls : Nat} {xs : Nat → Int32} {S : mkS} {I : mkI} {L : mkL} {R : mkR} {s : Nat} (b : Bd 221 shF riF rr12 (zS Ls, zI xs, zR) S I R) (hcap : s + 8000 * 512 ≤ mm_capS) : AllInv Ls xs 512 S I L R (221, s) := by
  obtain ⟨⟨-, h1⟩, h2, h3, h4, -, -⟩ := id b
  have gi : ∀ a k v, 128 ≤ a → a < 221 → lkI riF a k = v → I a k = v := fun a k v q1 q2 q3 => (h4 a k q1 q2).1.trans q3
  have gr : ∀ a k v, 128 ≤ a → a < 221 → lkR rr12 a k = v → R a k = v := fun a k v q1 q2 q3 => (h4 a k q1 q2).2.trans q3
  have hS : ∀ q ∈ stS, S q.1 = q.2 := fun q hq => b.shp ((show ∀ q ∈ stS, q ∈ shF by decide +kernel) q hq)
  have hR : ∀ q ∈ stR, R q.1 q.2.1 = some q.2.2 := fun q hq => by
    obtain ⟨k1, k2, k3⟩ := (show ∀ q ∈ stR, 128 ≤ q.1 ∧ q.1 < 221 ∧ lkR rr12 q.1 q.2.1 = some q.2.2 by decide +kernel) q hq
    exact gr _ _ _ k1 k2 k3
  have hs : St S R := ⟨hS, hR⟩
  have n14 : ∀ a, S a ≠ (14, 0) := fun a => by
    by_cases e1 : a < 128
    · rw [(h1 a e1).1]
      show zS Ls a ≠ _
      unfold zS
      split
      · decide
      · split
        · exact fun e => absurd (congrArg Prod.fst e) (show (3 : Nat) ≠ 14 by decide)
        · split
          · exact fun e => absurd (congrArg Prod.fst e) (show (8 : Nat) ≠ 14 by decide)
          · decide
    · by_cases e2 : a < 221
      · obtain ⟨q, q1, q2, q3⟩ := (show ∀ a < 221, 128 ≤ a → ∃ q ∈ shF, q.1 = a ∧ q.2 ≠ (14, 0) by decide +kernel) a e2 (by omega)
        rw [← q2, b.shp q1]; exact q3
      · rw [h2 a (by omega)]; decide
  have hLW : LW S := fun a ha => absurd ha (n14 a)
  have hlow : Low Ls xs S I R := by
    refine ⟨fun a ha => ⟨?_, ?_, ?_, ?_, fun j hj => ?_⟩, ?_, fun j hj => ?_, fun a _ => n14 a⟩
    · rw [(h1 a (by omega)).1]; show zS Ls a = _; unfold zS; rw [if_pos ha]
    · rw [(h1 a (by omega)).2.2]; show zR a 0 = _; unfold zR; rw [if_pos ⟨ha, rfl⟩]
    · rw [(h1 a (by omega)).2.1]; show zI xs a 1 = _; unfold zI; rw [if_pos ha]
    · rw [(h1 (64 + a) (by omega)).1]; show zS Ls (64 + a) = _; unfold zS; rw [if_neg (by omega), if_pos (by omega), Nat.add_sub_cancel_left]
    · rw [(h1 (64 + a) (by omega)).2.1]; show zI xs (64 + a) j = _; unfold zI; rw [if_neg (by omega), if_pos (by omega), Nat.add_sub_cancel_left]
    · rw [(h1 121 (by omega)).1]; show zS Ls 121 = _; unfold zS; rw [if_neg (by omega), if_neg (by omega), if_pos rfl]
    · rw [(h1 121 (by omega)).2.1]; show zI xs 121 j = _; unfold zI; rw [if_neg (by omega), if_neg (by omega), if_pos rfl]
  have z173 : ∀ k, I 173 k = 0 := fun k => gi 173 k 0 (by decide) (by decide) (lkI_ne _ k (by decide +kernel))
  have r132 : ∀ k, R 132 k = none := fun k => gr 132 k none (by decide) (by decide) (lkR_ne _ k (by decide +kernel))
  have cpl : CPlan (PD dr0) S R I 171 := ⟨S_171 hs, .inl ⟨by decide, by decide⟩, ⟨gi 171 0 _ (by decide) (by decide) (by decide +kernel), gi 171 1 _ (by decide) (by decide) (by decide +kernel), gi 171 2 _ (by decide) (by decide) (by decide +kernel)⟩, ⟨172, gr 171 3 _ (by decide) (by decide) (by decide +kernel), .inl ⟨by decide, by decide⟩, S_172 hs, fun k hk => absurd hk (Nat.not_lt_zero _)⟩, ⟨173, gr 171 4 _ (by decide) (by decide) (by decide +kernel), .inl ⟨by decide, by decide⟩, S_173 hs, fun i j _ _ => by
    rw [z173]
    unfold aLikes
    exact (if_pos rfl).symm⟩, .inl ⟨rfl, gr 171 5 _ (by decide) (by decide) (by decide +kernel)⟩, .inl ⟨rfl, gr 171 6 _ (by decide) (by decide) (by decide +kernel)⟩⟩
  have cw : CW (WN dr0) S R I 170 174 175 130 131 := ⟨⟨S_170 hs, gr 170 0 _ (by decide) (by decide) (by decide +kernel), gr 170 1 _ (by decide) (by decide) (by decide +kernel), S_174 hs, by decide, by decide⟩, ⟨171, gr 170 2 _ (by decide) (by decide) (by decide +kernel), cpl⟩, fun j hj => gi 174 j _ (by decide) (by decide) ((show ∀ j < 81, lkI riF 174 j = (WN dr0).2.1.2 j by decide +kernel) j hj), ⟨S_130 hs, by decide, gr 130 0 _ (by decide) (by decide) (by decide +kernel), S_131 hs, by decide⟩, 0, by decide, gi 130 1 _ (by decide) (by decide) (by decide +kernel), gi 130 2 _ (by decide) (by decide) (by decide +kernel), fun i hi => absurd hi (Nat.not_lt_zero _)⟩
  have dfr : DfR dr0 (I 198) := ⟨⟨gi 198 0 _ (by decide) (by decide) (by decide +kernel), gi 198 1 _ (by decide) (by decide) (by decide +kernel), gi 198 47 _ (by decide) (by decide) (by decide +kernel)⟩, ⟨gi 198 2 _ (by decide) (by decide) (by decide +kernel), fun k hk => absurd hk (Nat.not_lt_zero _)⟩, ⟨gi 198 7 _ (by decide) (by decide) (by decide +kernel), fun k hk => absurd hk (Nat.not_lt_zero _)⟩, ⟨fun l hl => gi 198 (38 + l) _ (by decide) (by decide) ((show ∀ l < 8, lkI riF 198 (38 + l) = -1 by decide +kernel) l hl), gi 198 46 _ (by decide) (by decide) (by decide +kernel), gi 198 6 _ (by decide) (by decide) (by decide +kernel)⟩, fun w hw => ⟨gi 198 (3 + w) _ (by decide) (by decide) ((show ∀ w < 3, lkI riF 198 (3 + w) = nI (dL dr0 w).length by decide +kernel) w hw), fun j hj => absurd hj (Nat.not_lt_zero _)⟩⟩
  have rw0 : RW (WN dr0) (I 198) := dfr.rw dr0_ok (fun _ _ _ => rfl) (fun d hd => absurd hd (Nat.not_lt_zero _))
  refine ⟨hlow, fun _ => 0, 0, 0, -1, WN dr0, fun _ => none, fun _ => none, ⟨⟨hs, hLW, h2, Nat.le_refl _, by show 221 + 40 * 512 ≤ 601152; decide, hcap⟩, ⟨Nat.zero_le _, gi 128 1 _ (by decide) (by decide) (by decide +kernel), fun j hj => absurd hj (Nat.not_lt_zero _)⟩, ⟨gi 128 3 _ (by decide) (by decide) (by decide +kernel), gi 128 4 _ (by decide) (by decide) (by decide +kernel)⟩, cw, fun t ht => ?_, ⟨fun i j a _ _ q _ => (by rw [show R 132 i = none from r132 i] at q; exact absurd q (by simp)), fun i _ => r132 i⟩, .inl (gr 157 3 _ (by decide) (by decide) (by decide +kernel))⟩, ⟨⟨Nat.zero_le _, gi 197 6 _ (by decide) (by decide) (by decide +kernel), fun j hj => absurd hj (Nat.not_lt_zero _)⟩, ⟨gi 197 14 _ (by decide) (by decide) (by decide +kernel), gi 197 15 _ (by decide) (by decide) (by decide +kernel)⟩, rw0, fun t ht => ?_, fun i hi => ?_, fun j hj => ?_⟩, 999, by decide, WN_ok dr0_ok (Nat.le_refl _), fun i w' h => absurd h (by simp)⟩
  · show I (189 + 2 * t) 2 = -1
    have ht4 : t < 4 := ht
    exact gi _ 2 _ (by omega) (by omega) ((show ∀ t < 4, lkI riF (189 + 2 * t) 2 = -1 by decide +kernel) t ht)
  · show I 217 t = -1
    exact gi _ t _ (by decide) (by decide) ((show ∀ t < 4, lkI riF 217 t = -1 by decide +kernel) t ht)
  · show I 201 i = 0
    exact gi _ i _ (by decide) (by decide) ((show ∀ t < 3, lkI riF 201 t = 0 by decide +kernel) i hi)
  · exact gi _ j _ (by decide) (by decide) ((show ∀ t < 10, lkI riF 205 t = -1 by decide +kernel) j hj)
theorem law_true : mm_Law := by
  intro Ls xs hL
  obtain ⟨S1, I1, L1, R1, e1, b1⟩ := st_O (z_bd Ls xs) (L := fun _ _ => 0) (sl := 3093034) (z' := 129) (sl' := 3093050) (c := 11) (M := 16) (fs := [.null, .int 0, .null, .int 0, .int 0, .null, .null, .null, .null, .null, .null, .null, .null, .null, .null, .null]) rfl rfl rfl (by decide) (by decide)
  obtain ⟨S2, I2, L2, R2, e2, b2⟩ := init11 (L0 := L1) b1
  obtain ⟨S3, I3, L3, R3, e3, b3⟩ := st_O b2 (L := L2) (sl := 3096383) (z' := 198) (sl' := 3096431) (c := 12) (M := 48) (fs := [.null, .null, .null, .null, .int 0, .null, .int 0, .int 0, .int 0, .int 0, .int 0, .int 0, .int 0, .int 0, .int 0, .int 0, .int 0, .int 0, .int 0, .null, .null, .null, .int 0, .null, .null, .int 0, .null, .int 0, .int 0, .int 0, .int 0, .null, .null, .int 0, .null, .null, .null, .null, .int 0, .long 0, .long 0, .long 0, .null, .int 0, .null, .null, .null, .null]) rfl rfl rfl (by decide) (by decide)
  obtain ⟨S4, I4, L4, R4, J, e4, b4, k4, w4⟩ := init12 (L0 := L3) b3
  have b5 : Bd 220 sh12 riF rr12 (zS Ls, zI xs, zR) S4 J R4 := b4.row (a := 198) [(198, 38, -1), (198, 39, -1), (198, 40, -1), (198, 41, -1), (198, 42, -1), (198, 43, -1), (198, 44, -1), (198, 45, -1)] (by decide) (by decide) (by decide) k4 (fun j => by
    rw [lk8g (d := 38) j, w4, (b4.2.2.2.1 198 j (by decide) (by decide)).1])
  obtain ⟨S6, I6, L6, R6, e6, b6⟩ := st_L b5 (L := L4) (sl := 3113824) (z' := 221) (sl' := 3113825) (N := 1) (x := 1) rfl (by decide) rfl rfl (by decide) (by decide)
  have hA : AllInv Ls xs 512 S6 I6 L6 R6 (221, 3113825) := all_0 b6 (by decide)
  obtain ⟨hz, hq⟩ := law_loop hL 512 mm_N 0 rfl (by unfold mm_N; decide) _ _ _ _ _ hA
  refine ⟨hz, ?_⟩
  unfold F_L_law
  rw [h0_mk, e1, b2_some, Option.bind_some, e2, Option.bind_some, e3, b2_some, Option.bind_some, e4, Option.bind_some, e6, b2_some]
  exact hq
