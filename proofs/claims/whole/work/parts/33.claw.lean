/-! the class's laws -/
theorem e_join112 (v : Int64) (h : MH) : F_X5_join_112 v h = some (lw_cl v, h) := by
  unfold F_X5_join_112 lw_cl mxL mnL F_X5_join_139
  simp only [lg_cmp_le, lg_cmp_ge]
  have e1 : (1000000 : Int64).toInt = 1000000 := by decide
  have e2 : (-1000000 : Int64).toInt = -1000000 := by decide
  by_cases h1 : v ≤ 1000000
  · rw [if_pos h1]
    by_cases h2 : (-1000000 : Int64) ≤ v
    · rw [if_pos h2]
      by_cases h3 : v < 1000000
      · rw [if_pos h3, if_neg (by rw [Int64.lt_iff_toInt_lt]; rw [Int64.le_iff_toInt_le] at h2; omega)]
      · rw [if_neg h3, if_neg (by rw [Int64.lt_iff_toInt_lt]; omega)]
        have h4 : v = 1000000 := by
          apply Int64.toInt_inj.mp
          rw [Int64.lt_iff_toInt_lt] at h3; rw [Int64.le_iff_toInt_le] at h1; omega
        rw [h4]
    · rw [if_neg h2]
      have h3 : v < 1000000 := by rw [Int64.le_iff_toInt_le] at h2; rw [Int64.lt_iff_toInt_lt]; omega
      rw [if_pos h3, if_pos (by rw [Int64.lt_iff_toInt_lt]; rw [Int64.le_iff_toInt_le] at h2; omega)]
      rfl
  · rw [if_neg h1]
    have h3 : ¬ v < 1000000 := by rw [Int64.le_iff_toInt_le] at h1; rw [Int64.lt_iff_toInt_lt]; omega
    rw [if_neg h3, if_neg (by decide)]
    rfl
theorem e_join {k : Nat} (hk : k < 8) (x y : Int32) (ht : 6 ≤ k → (x = 0 ∨ x = 1) ∧ (y = 0 ∨ y = 1)) (h : MH) : F_X5_join (nI (2000 + k)) x y h = some (lw_op k x y, h) := by
  rcases (show k = 0 ∨ k = 1 ∨ k = 2 ∨ k = 3 ∨ k = 4 ∨ k = 5 ∨ k = 6 ∨ k = 7 by omega) with rfl | rfl | rfl | rfl | rfl | rfl | rfl | rfl
  · show F_X5_join 2000 _ _ _ = _
    unfold F_X5_join; rw [if_neg (by decide), if_neg (by decide), if_neg (by decide), if_neg (by decide), if_neg (by decide), if_pos rfl, e_join112]; rfl
  · show F_X5_join 2001 _ _ _ = _
    unfold F_X5_join; rw [if_neg (by decide), if_neg (by decide), if_neg (by decide), if_neg (by decide), if_neg (by decide), if_neg (by decide), if_pos rfl, e_join112]; rfl
  · show F_X5_join 2002 _ _ _ = _
    unfold F_X5_join; rw [if_neg (by decide), if_neg (by decide), if_neg (by decide), if_neg (by decide), if_neg (by decide), if_neg (by decide), if_neg (by decide), e_join112]; rfl
  · show F_X5_join 2003 _ _ _ = _
    unfold F_X5_join; rw [if_pos rfl]
    simp only [F_X5_join_46, lw_op, b2i]
    by_cases q : x = y <;> simp [q]
  · show F_X5_join 2004 _ _ _ = _
    unfold F_X5_join; rw [if_neg (by decide), if_pos rfl]
    simp only [F_X5_join_57, lw_op, b2i]
    by_cases q : y ≤ x
    · have q2 : ¬ x < y := by rw [Int32.le_iff_toInt_le] at q; rw [Int32.lt_iff_toInt_lt]; omega
      simp [q, q2]
    · have q2 : x < y := by rw [Int32.le_iff_toInt_le] at q; rw [Int32.lt_iff_toInt_lt]; omega
      simp [q, q2]
  · show F_X5_join 2005 _ _ _ = _
    unfold F_X5_join; rw [if_neg (by decide), if_neg (by decide), if_pos rfl]
    simp only [F_X5_join_68, lw_op, b2i]
    by_cases q : x ≤ y
    · have q2 : ¬ y < x := by rw [Int32.le_iff_toInt_le] at q; rw [Int32.lt_iff_toInt_lt]; omega
      simp [q, q2]
    · have q2 : y < x := by rw [Int32.le_iff_toInt_le] at q; rw [Int32.lt_iff_toInt_lt]; omega
      simp [q, q2]
  · show F_X5_join 2006 _ _ _ = _
    unfold F_X5_join; rw [if_neg (by decide), if_neg (by decide), if_neg (by decide), if_pos rfl]
    obtain ⟨h1, h2⟩ := ht (by decide)
    rcases h1 with rfl | rfl <;> rcases h2 with rfl | rfl <;> rfl
  · show F_X5_join 2007 _ _ _ = _
    unfold F_X5_join; rw [if_neg (by decide), if_neg (by decide), if_neg (by decide), if_neg (by decide), if_pos rfl]
    obtain ⟨h1, h2⟩ := ht (by decide)
    rcases h1 with rfl | rfl <;> rcases h2 with rfl | rfl <;> rfl
/-- a Law's shape -/
def LawS (S : mkS) (R : mkR) (a ca sa len : Nat) : Prop := S a = (14, 0) ∧ R a 0 = some ca ∧ R a 1 = some sa ∧ S ca = (1, len) ∧ S sa = (1, 32) ∧ 128 ≤ sa ∧ ca ≠ sa ∧ len ≤ 900
section CL
variable {S : mkS} {L : mkL} {R : mkR} {n : Nat × Nat}
theorem e_setVars (I : mkI) {a ca sa len : Nat} (hl : LawS S R a ca sa len) (x0 x1 x2 x3 : Int32) : F_X5_setVariables (some a) x0 x1 x2 x3 (mk S I L R n) = some (mk S (up2 (up2 (up2 (up2 I sa 0 x0) sa 1 x1) sa 2 x2) sa 3 x3) L R n) := by
  obtain ⟨h1, h2, h3, h4, h5, h6, h7, h8⟩ := hl
  have g : ∀ (I : mkI), gR (mk S I L R n) (some a) 5 1 = some (some sa) := fun I => (mk_gR (by rw [h1]) rfl).trans (by rw [h3])
  have w : ∀ (I : mkI) (k : Nat) (x : Int32), k < 32 → sI (mk S I L R n) (some sa) 0 (nI k) x = some (mk S (up2 I sa k x) L R n) := fun I k x hk => mk_sJ0 h5 hk (by decide) h6
  unfold F_X5_setVariables
  rw [g, Option.bind_some, show (0 : Int32) = nI 0 from rfl, w _ 0 _ (by decide), Option.bind_some, g, Option.bind_some, show (1 : Int32) = nI 1 from rfl, w _ 1 _ (by decide), Option.bind_some, g, Option.bind_some, show (2 : Int32) = nI 2 from rfl, w _ 2 _ (by decide), Option.bind_some, g, Option.bind_some, show (3 : Int32) = nI 3 from rfl, w _ 3 _ (by decide), Option.bind_some]
theorem e_setLiking (I : mkI) {a ca sa len : Nat} (hl : LawS S R a ca sa len) (x0 x1 : Int32) : F_X5_setLiking (some a) x0 x1 (mk S I L R n) = some (mk S (up2 (up2 I sa 4 x0) sa 5 x1) L R n) := by
  obtain ⟨h1, h2, h3, h4, h5, h6, h7, h8⟩ := hl
  have g : ∀ (I : mkI), gR (mk S I L R n) (some a) 5 1 = some (some sa) := fun I => (mk_gR (by rw [h1]) rfl).trans (by rw [h3])
  have w : ∀ (I : mkI) (k : Nat) (x : Int32), k < 32 → sI (mk S I L R n) (some sa) 0 (nI k) x = some (mk S (up2 I sa k x) L R n) := fun I k x hk => mk_sJ0 h5 hk (by decide) h6
  unfold F_X5_setLiking
  rw [g, Option.bind_some, show (4 : Int32) = nI 4 from rfl, w _ 4 _ (by decide), Option.bind_some, g, Option.bind_some, show (5 : Int32) = nI 5 from rfl, w _ 5 _ (by decide), Option.bind_some]
theorem e_plain (I : mkI) {a ca sa len : Nat} (hl : LawS S R a ca sa len) {o : Nat} (ho : o < 1006) : F_X5_plain (some a) (nI o) (mk S I L R n) = some (if o < 1000 then nI o else I sa (o - 1000), mk S I L R n) := by
  obtain ⟨h1, h2, h3, h4, h5, h6, h7, h8⟩ := hl
  have g : gR (mk S I L R n) (some a) 5 1 = some (some sa) := (mk_gR (by rw [h1]) rfl).trans (by rw [h3])
  unfold F_X5_plain F_X5_plain_25 F_X5_plain_26
  rw [show (1000 : Int32) = nI 1000 from rfl]
  by_cases h : o < 1000
  · have c1 : nI o - nI 1000 < 0 := by
      rw [Int32.lt_iff_toInt_lt, Int32.toInt_sub, nI_toInt (by omega), nI_toInt (by omega)]
      show Int.bmod _ _ < 0
      rw [Int.bmod_eq_of_le (by omega) (by omega)]; omega
    rw [if_pos c1, if_pos h]
  · rw [nI_sub (by omega), if_neg (nI_pos (by omega)), show (6 : Int32) = nI 6 from rfl, if_neg (nI_ge (by omega) (by omega)), g, Option.bind_some, mk_aJ0 h5 (by omega) (by decide), Option.bind_some, if_neg h]
theorem e_valueL {a ca sa len : Nat} (hl : LawS S R a ca sa len) (vs : Nat → Int32) : ∀ (ops : List Nat) (f k : Nat) (I : mkI) (st : List Int32) (ts tz : List Bool), ops.length < f → k + ops.length = len → (∀ j : Nat, j < ops.length → I ca (k + j) = nI (ops.getD j 0)) → tys ops ts = some tz → tv ts st → stk 6 (I sa) st → st.length ≤ 26 → (∀ j, j < 6 → I sa j = vs j) → tz.length = 1 →
    ∃ g : Nat → Int32, F_X5_value_5 f (some a) (nI (6 + st.length)) (nI k) (mk S I L R n) = some (g 6, mk S (up1 I sa g) L R n) ∧ stk 6 g (ev vs ops st) := by
  have hl0 := hl
  obtain ⟨l1, l2, l3, l4, l5, l6, l7, l8⟩ := hl
  have gc : ∀ (I : mkI), gR (mk S I L R n) (some a) 5 0 = some (some ca) := fun I => (mk_gR (by rw [l1]) rfl).trans (by rw [l2])
  have gs : ∀ (I : mkI), gR (mk S I L R n) (some a) 5 1 = some (some sa) := fun I => (mk_gR (by rw [l1]) rfl).trans (by rw [l3])
  have gn : ∀ (I : mkI), aNt (mk S I L R n) (some ca) 0 = some (nI len) := fun I => mk_aNt0 l4
  have ra : ∀ (I : mkI) (k : Nat), k < 32 → aI (mk S I L R n) (some sa) 0 (nI k) = some (I sa k) := fun I k hk => mk_aJ0 l5 hk (by decide)
  have wa : ∀ (I : mkI) (k : Nat) (x : Int32), k < 32 → sI (mk S I L R n) (some sa) 0 (nI k) x = some (mk S (up2 I sa k x) L R n) := fun I k x hk => mk_sJ0 l5 hk (by decide) l6
  have rc : ∀ (I : mkI) (k : Nat), k < len → aI (mk S I L R n) (some ca) 0 (nI k) = some (I ca k) := fun I k hk => mk_aJ0 l4 hk (by omega)
  have hcv : ∀ (I : mkI) {α : Type} (q : Option α), cV (mk S I L R n) (some a) 5 q = q := fun I α q => mk_cV (by rw [l1])
  intro ops
  induction ops with
  | nil =>
    intro f k I st ts tz hf hk hcode hty htv hstk hlen hvs h1z
    obtain ⟨f, rfl⟩ : ∃ g, f = g + 1 := ⟨f - 1, by omega⟩
    refine ⟨I sa, ?_, hstk⟩
    have e1 : up1 I sa (I sa) = I := by funext b; by_cases h : b = sa <;> simp [up1, h]
    cases hty
    have hl1 := tv_len _ _ htv
    have hst1 : st.length = 1 := by omega
    have hk : k = len := by simpa using hk
    have h1 : nI len ≤ nI k := nI_le (by omega) (by omega)
    simp only [F_X5_value_5, gc, gn, gs, Option.bind_some, h1, if_true, e1]
    rw [hst1, nI_sub1 (by omega), ra _ _ (by decide)]
    rfl
  | cons o ops ih =>
    intro f k I st ts tz hf hk hcode hty htv hstk hlen hvs h1z
    obtain ⟨f, rfl⟩ : ∃ g, f = g + 1 := ⟨f - 1, by omega⟩
    simp only [List.length_cons] at hf hk
    have h1 : ¬ nI len ≤ nI k := nI_ge (by omega) (by omega)
    have hc0 : I ca k = nI o := by have := hcode 0 (by simp); simpa using this
    unfold tys at hty
    cases hts : tst o ts with
    | none => rw [hts] at hty; cases hty
    | some t1 =>
    rw [hts] at hty
    have hty : tys ops t1 = some tz := hty
    have htv1 : tv t1 (stp vs o st) := tst_tv hts htv
    have hl1 := tv_len _ _ htv
    have hrec : ∀ (I1 : mkI), (∀ b, b ≠ sa → I1 b = I b) → (∀ j, j < 6 → I1 sa j = I sa j) → stk 6 (I1 sa) (stp vs o st) → (stp vs o st).length ≤ 26 → ∃ g : Nat → Int32, F_X5_value_5 f (some a) (nI (6 + (stp vs o st).length)) (nI (k + 1)) (mk S I1 L R n) = some (g 6, mk S (up1 I sa g) L R n) ∧ stk 6 g (ev vs ops (stp vs o st)) := by
      intro I1 hI1 hI2 hs1 hl9
      obtain ⟨g, hg, hg2⟩ := ih f (k + 1) I1 (stp vs o st) t1 tz (by omega) (by omega) (fun j hj => by
        rw [hI1 _ l7]
        have := hcode (j + 1) (by simp; omega)
        rw [show k + 1 + j = k + (j + 1) by omega, this]; simp) hty htv1 hs1 hl9 (fun j hj => by rw [hI2 j hj]; exact hvs j hj) h1z
      refine ⟨g, ?_, hg2⟩
      rw [hg]
      congr 3
      funext b
      by_cases hb : b = sa
      · simp [up1, hb]
      · simp [up1, hb, hI1 b hb]
    simp only [F_X5_value_5, gc, gn, gs, Option.bind_some, h1, if_false, rc _ _ (show k < len by omega), hc0, hcv, F_X5_value_114, li_add' 1]
    have q2000 : (2000 : Int32) = nI 2000 := rfl
    have q2008 : (2008 : Int32) = nI 2008 := rfl
    have q32 : (32 : Int32) = nI 32 := rfl
    have q7 : (7 : Int32) = nI 7 := rfl
    unfold tst at hts
    by_cases hB : o < 1006
    · have es : stp vs o st = (if o < 1000 then nI o else vs (o - 1000)) :: st := by
        unfold stp
        by_cases hA : o < 1000
        · rw [if_pos hA, if_pos hA]
        · rw [if_neg hA, if_neg hA, if_pos (by omega)]
      rw [if_pos hB] at hts
      have hl2 : ts.length < 26 := by
        by_cases h9 : ts.length < 26
        · exact h9
        · rw [if_neg h9] at hts; cases hts
      rw [es] at hrec
      have ev1 : (if o < 1000 then nI o else I sa (o - 1000)) = (if o < 1000 then nI o else vs (o - 1000)) := by
        by_cases hA : o < 1000
        · rw [if_pos hA, if_pos hA]
        · rw [if_neg hA, if_neg hA, hvs _ (by omega)]
      rw [if_neg (by rw [q2000]; exact nI_ge (by omega) (by omega)), if_neg (by rw [q32]; exact nI_ge (by omega) (by omega)), e_plain I hl0 hB, b2_some, wa _ _ _ (by omega), Option.bind_some, ev1]
      show ∃ g, _ ∧ stk 6 g (ev vs ops (stp vs o st))
      rw [es]
      exact hrec (up2 I sa (6 + st.length) (if o < 1000 then nI o else vs (o - 1000))) (fun b hb => up2_ne _ _ _ hb) (fun j hj => by rw [up2_row, up1_ne _ _ (by omega)]) (by rw [up2_row]; exact stk_push 6 (I sa) _ st hstk) (by simp; omega)
    · rw [if_neg hB] at hts
      have hge : 2000 ≤ o ∧ o < 2009 := by
        by_cases h8 : 2000 ≤ o ∧ o < 2006
        · omega
        · rw [if_neg h8] at hts
          by_cases h7 : o = 2006 ∨ o = 2007
          · omega
          · rw [if_neg h7] at hts
            by_cases h6 : o = 2008
            · omega
            · rw [if_neg h6] at hts; cases hts
      rw [if_pos (by rw [q2000]; exact nI_le (by omega) (by omega))]
      by_cases hN : o = 2008
      · subst hN
        rw [if_neg (by omega), if_neg (by omega), if_pos rfl] at hts
        match ts, st, hts, htv with
        | true :: t, z :: u, hts, htv =>
          have es : stp vs 2008 (z :: u) = (1 - z) :: u := rfl
          rw [es] at hrec
          simp only [List.length_cons] at hlen
          simp only [List.length_cons]
          rw [if_pos q2008.symm, nI_sub1 (by omega), show 6 + (u.length + 1) - 1 = 6 + u.length by omega, ra _ _ (by omega), Option.bind_some, wa _ _ _ (by omega), Option.bind_some, hstk.1]
          exact hrec (up2 I sa (6 + u.length) (1 - z)) (fun b hb => up2_ne _ _ _ hb) (fun j hj => by rw [up2_row, up1_ne _ _ (by omega)]) (by rw [up2_row]; exact stk_push 6 (I sa) _ u hstk.2) (by simp; omega)
        | true :: t, [], hts, htv => exact htv.elim
        | [], _, hts, _ => cases hts
        | false :: _, _, hts, _ => cases hts
      · obtain ⟨y, x, u, hst, hxy⟩ : ∃ y x u, st = y :: x :: u ∧ (6 ≤ o - 2000 → (x = 0 ∨ x = 1) ∧ (y = 0 ∨ y = 1)) := by
          by_cases h8 : 2000 ≤ o ∧ o < 2006
          · rw [if_pos h8] at hts
            match ts, st, hts, htv with
            | false :: false :: t, y :: x :: u, _, _ => exact ⟨y, x, u, rfl, fun h9 => by omega⟩
            | false :: false :: t, [], h, hv => exact hv.elim
            | false :: false :: t, [_], h, hv => exact hv.2.elim
            | [], _, h, _ => cases h
            | [true], _, h, _ => cases h
            | [false], _, h, _ => cases h
            | true :: _ :: _, _, h, _ => cases h
            | false :: true :: _, _, h, _ => cases h
          · rw [if_neg h8, if_pos (by omega)] at hts
            match ts, st, hts, htv with
            | true :: true :: t, y :: x :: u, _, hv => exact ⟨y, x, u, rfl, fun _ => ⟨hv.2.1 rfl, hv.1 rfl⟩⟩
            | true :: true :: t, [], h, hv => exact hv.elim
            | true :: true :: t, [_], h, hv => exact hv.2.elim
            | [], _, h, _ => cases h
            | [true], _, h, _ => cases h
            | [false], _, h, _ => cases h
            | false :: _ :: _, _, h, _ => cases h
            | true :: false :: _, _, h, _ => cases h
        subst hst
        have es : stp vs o (y :: x :: u) = lw_op (o - 2000) x y :: u := by unfold stp; rw [if_neg (by omega), if_neg (by omega), if_neg hN]
        rw [es] at hrec
        simp only [List.length_cons] at hlen
        have c2 : ¬ nI o = 2008 := by rw [q2008]; intro h9; have := (nI_eq (by omega) (by omega)).mp h9; omega
        have hy0 : I sa (6 + (u.length + 1)) = y := hstk.1
        have hx0 : I sa (6 + u.length) = x := hstk.2.1
        simp only [List.length_cons]
        rw [if_neg c2, if_neg (by rw [q7]; exact nI_ge (by omega) (by omega)), nI_m1 (by omega), show 6 + (u.length + 1 + 1) - 1 = 6 + (u.length + 1) by omega, nI_sub1 (by omega), show 6 + (u.length + 1) - 1 = 6 + u.length by omega, ra _ _ (by omega), Option.bind_some, ra _ _ (by omega), Option.bind_some, hy0, hx0, show nI o = nI (2000 + (o - 2000)) by rw [show 2000 + (o - 2000) = o by omega], e_join (by omega) x y hxy, b2_some, wa _ _ _ (by omega), Option.bind_some]
        show ∃ g, _ ∧ stk 6 g (ev vs ops (stp vs o (y :: x :: u)))
        rw [es]
        exact hrec (up2 I sa (6 + u.length) (lw_op (o - 2000) x y)) (fun b hb => up2_ne _ _ _ hb) (fun j hj => by rw [up2_row, up1_ne _ _ (by omega)]) (by rw [up2_row]; exact stk_push 6 (I sa) _ u hstk.2.2) (by simp; omega)
theorem e_value (I : mkI) {a ca sa len : Nat} (hl : LawS S R a ca sa len) (ops : List Nat) (b : Bool) (hlen : ops.length = len) (hcode : ∀ j : Nat, j < ops.length → I ca j = nI (ops.getD j 0)) (hty : tys ops [] = some [b]) :
    ∃ g : Nat → Int32, F_X5_value (some a) (mk S I L R n) = some (lawv (I sa) ops, mk S (up1 I sa g) L R n) := by
  have h8 := hl.2.2.2.2.2.2.2
  obtain ⟨g, hg, hg2⟩ := e_valueL (n := n) (L := L) hl (I sa) ops mm_N 0 I [] [] [b] (by show ops.length < 1000000; omega) (by omega) (fun j hj => by rw [Nat.zero_add]; exact hcode j hj) hty trivial trivial (by simp) (fun _ _ => rfl) rfl
  refine ⟨g, ?_⟩
  have h1 : (ev (I sa) ops []).length = 1 := (tv_len _ _ (ev_len ops [] [b] [] hty trivial)).symm
  unfold F_X5_value lawv
  rw [← stk_1 hg2 h1]
  exact hg
end CL
