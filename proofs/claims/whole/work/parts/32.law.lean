/-! laws: what their steps come to -/
def lw_cl (v : Int64) : Int32 := (mxL ((-1000000) : Int64) (mnL (1000000 : Int64) v)).toInt32
def lw_op (k : Nat) (x y : Int32) : Int32 := match k with
  | 0 => lw_cl (x.toInt64 + y.toInt64)
  | 1 => lw_cl (x.toInt64 - y.toInt64)
  | 2 => lw_cl (x.toInt64 * y.toInt64)
  | 3 => b2i (decide (x = y))
  | 4 => b2i (decide (x < y))
  | 5 => b2i (decide (y < x))
  | 6 => b2i (decide (x = 1 ∧ y = 1))
  | _ => b2i (decide (x = 1 ∨ y = 1))
def stp (vs : Nat → Int32) (n : Nat) (st : List Int32) : List Int32 :=
  if n < 1000 then nI n :: st else if n < 2000 then vs (n - 1000) :: st else if n = 2008 then (match st with
    | a :: t => (1 - a) :: t
    | [] => []) else match st with
    | y :: x :: t => lw_op (n - 2000) x y :: t
    | _ => st
def ev (vs : Nat → Int32) : List Nat → List Int32 → List Int32
  | [], st => st
  | n :: r, st => ev vs r (stp vs n st)
def tst (n : Nat) (ts : List Bool) : Option (List Bool) :=
  if n < 1006 then (if ts.length < 26 then some (false :: ts) else none)
  else if 2000 ≤ n ∧ n < 2006 then (match ts with
    | false :: false :: t => some (decide (2003 ≤ n) :: t)
    | _ => none)
  else if n = 2006 ∨ n = 2007 then (match ts with
    | true :: true :: t => some (true :: t)
    | _ => none)
  else if n = 2008 then (match ts with
    | true :: t => some (true :: t)
    | _ => none)
  else none
def tys : List Nat → List Bool → Option (List Bool)
  | [], ts => some ts
  | n :: r, ts => (tst n ts).bind (tys r)
/-- values of told types -/
def tv : List Bool → List Int32 → Prop
  | [], [] => True
  | b :: t, x :: u => (b = true → x = 0 ∨ x = 1) ∧ tv t u
  | _, _ => False
/-- the stack's row from off on -/
def stk (off : Nat) (f : Nat → Int32) : List Int32 → Prop
  | [] => True
  | a :: t => f (off + t.length) = a ∧ stk off f t
theorem tv_len : ∀ (ts : List Bool) (st : List Int32), tv ts st → ts.length = st.length
  | [], [], _ => rfl
  | _ :: t, _ :: u, h => by simp [tv_len t u h.2]
  | [], _ :: _, h => h.elim
  | _ :: _, [], h => h.elim
theorem stk_up (off : Nat) (f : Nat → Int32) (x : Int32) : ∀ (k : Nat) (t : List Int32), off + t.length ≤ k → stk off f t → stk off (up1 f k x) t
  | _, [], _, _ => trivial
  | k, a :: t, hk, h => by
    simp only [List.length_cons] at hk
    refine ⟨?_, stk_up off f x k t (by omega) h.2⟩
    rw [up1_ne _ _ (by omega)]; exact h.1
theorem stk_push (off : Nat) (f : Nat → Int32) (x : Int32) (t : List Int32) (h : stk off f t) : stk off (up1 f (off + t.length) x) (x :: t) := ⟨up1_self _ _ _, stk_up off f x _ t (Nat.le_refl _) h⟩
theorem stk_not (off : Nat) (f : Nat → Int32) (a x : Int32) (t : List Int32) (h : stk off f (a :: t)) : stk off (up1 f (off + t.length) x) (x :: t) := stk_push off f x t h.2
theorem tst_tv {vs : Nat → Int32} {n : Nat} {ts tz : List Bool} {st : List Int32} (h : tst n ts = some tz) (hv : tv ts st) : tv tz (stp vs n st) := by
  unfold tst at h
  unfold stp
  split at h
  · rename_i h1
    split at h
    · cases h
      by_cases h2 : n < 1000
      · rw [if_pos h2]; exact ⟨fun q => (by cases q), hv⟩
      · rw [if_neg h2, if_pos (by omega)]; exact ⟨fun q => (by cases q), hv⟩
    · cases h
  · rename_i h1
    split at h
    · rename_i h2
      rw [if_neg (by omega), if_neg (by omega), if_neg (by omega)]
      match ts, st, h, hv with
      | false :: false :: t, y :: x :: u, h, hv =>
        cases h
        refine ⟨fun q => ?_, hv.2.2⟩
        have h3 : 2003 ≤ n := of_decide_eq_true q
        rcases (show n = 2003 ∨ n = 2004 ∨ n = 2005 by omega) with rfl | rfl | rfl
        · show b2i _ = 0 ∨ b2i _ = 1
          unfold b2i; split <;> simp
        · show b2i _ = 0 ∨ b2i _ = 1
          unfold b2i; split <;> simp
        · show b2i _ = 0 ∨ b2i _ = 1
          unfold b2i; split <;> simp
      | false :: false :: t, [], h, hv => exact hv.elim
      | false :: false :: t, [_], h, hv => exact hv.2.elim
      | [], _, h, _ => cases h
      | [true], _, h, _ => cases h
      | [false], _, h, _ => cases h
      | true :: _ :: _, _, h, _ => cases h
      | false :: true :: _, _, h, _ => cases h
    · rename_i h2
      split at h
      · rename_i h3
        rw [if_neg (by omega), if_neg (by omega), if_neg (by omega)]
        match ts, st, h, hv with
        | true :: true :: t, y :: x :: u, h, hv =>
          cases h
          refine ⟨fun _ => ?_, hv.2.2⟩
          rcases h3 with rfl | rfl
          · show b2i _ = 0 ∨ b2i _ = 1
            unfold b2i; split <;> simp
          · show b2i _ = 0 ∨ b2i _ = 1
            unfold b2i; split <;> simp
        | true :: true :: t, [], h, hv => exact hv.elim
        | true :: true :: t, [_], h, hv => exact hv.2.elim
        | [], _, h, _ => cases h
        | [true], _, h, _ => cases h
        | [false], _, h, _ => cases h
        | false :: _ :: _, _, h, _ => cases h
        | true :: false :: _, _, h, _ => cases h
      · rename_i h3
        split at h
        · rename_i h4
          subst h4
          rw [if_neg (by omega), if_neg (by omega), if_pos rfl]
          match ts, st, h, hv with
          | true :: t, y :: u, h, hv =>
            cases h
            refine ⟨fun _ => ?_, hv.2⟩
            rcases hv.1 rfl with rfl | rfl
            · right; rfl
            · left; rfl
          | true :: t, [], h, hv => exact hv.elim
          | [], _, h, _ => cases h
          | false :: _, _, h, _ => cases h
        · cases h
def gam (n : Nat) : Nat := if n < 1000 then 1000 + n else if n < 2000 then n - 900 else n - 1990
theorem e_bound (v : Int64) (h : MH) : F_X12_bound v h = some (lw_cl v, h) := rfl
theorem l64_eq (x y : Int32) : (x.toInt64 = y.toInt64) = (x = y) := by
  refine propext ⟨fun h => ?_, fun h => by rw [h]⟩
  have h1 := congrArg Int64.toInt h
  rw [Int32.toInt_toInt64, Int32.toInt_toInt64] at h1
  exact Int32.toInt_inj.mp h1
theorem l64_lt (x y : Int32) : (x.toInt64 < y.toInt64) = (x < y) := by
  rw [Int64.lt_iff_toInt_lt, Int32.lt_iff_toInt_lt, Int32.toInt_toInt64, Int32.toInt_toInt64]
theorem l64_le (x y : Int32) : (x.toInt64 ≤ y.toInt64) = (x ≤ y) := by
  rw [Int64.le_iff_toInt_le, Int32.le_iff_toInt_le, Int32.toInt_toInt64, Int32.toInt_toInt64]
theorem e_done {k : Nat} (hk : k < 8) (x y : Int32) (ht : 6 ≤ k → (x = 0 ∨ x = 1) ∧ (y = 0 ∨ y = 1)) (h : MH) : F_X12_done (nI (10 + k)) x.toInt64 y.toInt64 h = some (lw_op k x y, h) := by
  rcases (show k = 0 ∨ k = 1 ∨ k = 2 ∨ k = 3 ∨ k = 4 ∨ k = 5 ∨ k = 6 ∨ k = 7 by omega) with rfl | rfl | rfl | rfl | rfl | rfl | rfl | rfl
  · show F_X12_done 10 _ _ _ = _
    unfold F_X12_done; rw [if_pos rfl, e_bound]; rfl
  · show F_X12_done 11 _ _ _ = _
    unfold F_X12_done; rw [if_neg (by decide), if_pos rfl, e_bound]; rfl
  · show F_X12_done 12 _ _ _ = _
    unfold F_X12_done; rw [if_neg (by decide), if_neg (by decide), if_pos rfl, e_bound]; rfl
  · show F_X12_done 13 _ _ _ = _
    unfold F_X12_done; rw [if_neg (by decide), if_neg (by decide), if_neg (by decide), if_pos rfl]
    simp only [lg_cmp_eq, l64_eq, F_X12_done_76, lw_op, b2i]
    by_cases q : x = y <;> simp [q]
  · show F_X12_done 14 _ _ _ = _
    unfold F_X12_done; rw [if_neg (by decide), if_neg (by decide), if_neg (by decide), if_neg (by decide), if_pos rfl]
    simp only [lg_cmp_ge, l64_le, F_X12_done_88, lw_op, b2i]
    by_cases q : y ≤ x
    · have q2 : ¬ x < y := by rw [Int32.le_iff_toInt_le] at q; rw [Int32.lt_iff_toInt_lt]; omega
      simp [q, q2]
    · have q2 : x < y := by rw [Int32.le_iff_toInt_le] at q; rw [Int32.lt_iff_toInt_lt]; omega
      simp [q, q2]
  · show F_X12_done 15 _ _ _ = _
    unfold F_X12_done; rw [if_neg (by decide), if_neg (by decide), if_neg (by decide), if_neg (by decide), if_neg (by decide), if_pos rfl]
    simp only [lg_cmp_le, l64_le, F_X12_done_100, lw_op, b2i]
    by_cases q : x ≤ y
    · have q2 : ¬ y < x := by rw [Int32.le_iff_toInt_le] at q; rw [Int32.lt_iff_toInt_lt]; omega
      simp [q, q2]
    · have q2 : y < x := by rw [Int32.le_iff_toInt_le] at q; rw [Int32.lt_iff_toInt_lt]; omega
      simp [q, q2]
  · show F_X12_done 16 _ _ _ = _
    unfold F_X12_done; rw [if_neg (by decide), if_neg (by decide), if_neg (by decide), if_neg (by decide), if_neg (by decide), if_neg (by decide), if_pos rfl]
    obtain ⟨h1, h2⟩ := ht (by decide)
    rcases h1 with rfl | rfl <;> rcases h2 with rfl | rfl <;> rfl
  · show F_X12_done 17 _ _ _ = _
    unfold F_X12_done; rw [if_neg (by decide), if_neg (by decide), if_neg (by decide), if_neg (by decide), if_neg (by decide), if_neg (by decide), if_neg (by decide)]
    obtain ⟨h1, h2⟩ := ht (by decide)
    rcases h1 with rfl | rfl <;> rcases h2 with rfl | rfl <;> rfl
section RL
variable {S : mkS} {L : mkL} {R : mkR} {n : Nat × Nat}
theorem nI_sub {a b : Nat} (h : b ≤ a) : nI a - nI b = nI (a - b) := by
  obtain ⟨c, rfl⟩ : ∃ c, a = b + c := ⟨a - b, by omega⟩
  rw [← nI_add, Nat.add_sub_cancel_left, Int32.add_comm, Int32.add_sub_cancel]
theorem nI_sub1 {a : Nat} (h : 1 ≤ a) : nI a - 1 = nI (a - 1) := nI_sub h
theorem nI_m1 {a : Nat} (h : 1 ≤ a) : nI a + (-1) = nI (a - 1) := by
  rw [← Int32.sub_eq_add_neg]; exact nI_sub h
/-- the reference's evaluation, from step k on -/
theorem e_lawL (hs : St S R) {many at_ : Nat} (hm : many < 8) (ha : at_ ≤ 2301) (vs : Nat → Int32) : ∀ (ops : List Nat) (f k : Nat) (I : mkI) (st : List Int32) (ts tz : List Bool), ops.length < f → k + ops.length ≤ 900 → I 198 many = nI (k + ops.length) → (∀ j : Nat, j < ops.length → I 198 (at_ + k + j) = nI (gam (ops.getD j 0))) → tys ops ts = some tz → tv ts st → stk 0 (I 203) st → st.length ≤ 26 → (∀ j, j < 6 → I 204 j = vs j) →
    ∃ g : Nat → Int32, F_X12_lawOf_5 f (some 197) (nI many) (nI at_) (nI st.length) (nI k) (mk S I L R n) = some (g 0, mk S (up1 I 203 g) L R n) ∧ stk 0 g (ev vs ops st) := by
  intro ops
  induction ops with
  | nil =>
    intro f k I st ts tz hf hk hmany hcode hty htv hstk hlen hvs
    obtain ⟨f, rfl⟩ : ∃ g, f = g + 1 := ⟨f - 1, by omega⟩
    refine ⟨I 203, ?_, hstk⟩
    have e1 : up1 I 203 (I 203) = I := by funext b; by_cases h : b = 203 <;> simp [up1, h]
    have hmany : I 198 many = nI k := hmany
    have h1 : nI k ≤ nI k := nI_le (Nat.le_refl _) (by simp at hk; omega)
    simp only [F_X12_lawOf_5, gr_197_0 hs, Option.bind_some, ai_198 hs (show many < 3205 by omega), hmany, h1, if_true, gr_197_19 hs, e1]
    rw [show (0 : Int32) = nI 0 from rfl, ai_203 hs (by omega)]
    rfl
  | cons o ops ih =>
    intro f k I st ts tz hf hk hmany hcode hty htv hstk hlen hvs
    obtain ⟨f, rfl⟩ : ∃ g, f = g + 1 := ⟨f - 1, by omega⟩
    simp only [List.length_cons] at hf hk hmany
    have h1 : ¬ nI (k + (ops.length + 1)) ≤ nI k := nI_ge (by omega) (by omega)
    have hc0 : I 198 (at_ + k) = nI (gam o) := by have := hcode 0 (by simp); simpa using this
    unfold tys at hty
    cases hts : tst o ts with
    | none => rw [hts] at hty; cases hty
    | some t1 =>
    rw [hts] at hty
    have hty : tys ops t1 = some tz := hty
    have htv1 : tv t1 (stp vs o st) := tst_tv hts htv
    have hl1 := tv_len _ _ htv
    have hrec : ∀ (I1 : mkI), (∀ b, b ≠ 203 → I1 b = I b) → stk 0 (I1 203) (stp vs o st) → (stp vs o st).length ≤ 26 → ∃ g : Nat → Int32, F_X12_lawOf_5 f (some 197) (nI many) (nI at_) (nI (stp vs o st).length) (nI (k + 1)) (mk S I1 L R n) = some (g 0, mk S (up1 I 203 g) L R n) ∧ stk 0 g (ev vs ops (stp vs o st)) := by
      intro I1 hI1 hs1 hl9
      obtain ⟨g, hg, hg2⟩ := ih f (k + 1) I1 (stp vs o st) t1 tz (by omega) (by omega) (by rw [hI1 _ (by decide), hmany]; congr 1; omega) (fun j hj => by
        rw [hI1 _ (by decide)]
        have := hcode (j + 1) (by simp; omega)
        rw [show at_ + (k + 1) + j = at_ + k + (j + 1) by omega, this]; simp) hty htv1 hs1 hl9 (fun j hj => by rw [hI1 _ (by decide)]; exact hvs j hj)
      refine ⟨g, ?_, hg2⟩
      rw [hg]
      congr 3
      funext b
      by_cases hb : b = 203
      · simp [up1, hb]
      · simp [up1, hb, hI1 b hb]
    simp only [F_X12_lawOf_5, gr_197_0 hs, Option.bind_some, ai_198 hs (show many < 3205 by omega), hmany, h1, if_false, nI_add, ai_198 hs (show at_ + k < 3205 by omega), hc0, gr_197_19 hs, gr_197_20 hs, F_X12_lawOf_66, F_X12_lawOf_133, li_add' 1]
    have q100 : (100 : Int32) = nI 100 := rfl
    have q1000 : (1000 : Int32) = nI 1000 := rfl
    have q18 : (18 : Int32) = nI 18 := rfl
    unfold tst at hts
    by_cases hA : o < 1000
    · have eg : gam o = 1000 + o := by simp [gam, hA]
      have es : stp vs o st = nI o :: st := by simp [stp, hA]
      rw [if_pos (by omega)] at hts
      have hl2 : ts.length < 26 := by
        by_cases h9 : ts.length < 26
        · exact h9
        · rw [if_neg h9] at hts; cases hts
      rw [es] at hrec
      have c1 : ¬ nI (gam o) < 100 := by rw [eg, q100]; exact nI_nlt (by omega) (by omega)
      have c2 : ¬ nI (gam o) < 1000 := by rw [eg, q1000]; exact nI_nlt (by omega) (by omega)
      have c3 : nI (gam o) - 1000 = nI o := by rw [eg, q1000, nI_sub (by omega), show 1000 + o - 1000 = o by omega]
      rw [if_neg c1, if_neg c2, c3, si_203 hs (by omega), Option.bind_some]
      show ∃ g, _ ∧ stk 0 g (ev vs ops (stp vs o st))
      rw [es]
      exact hrec (up2 I 203 st.length (nI o)) (fun b hb => up2_ne _ _ _ hb) (by rw [up2_row]; have := stk_push 0 (I 203) (nI o) st hstk; rwa [Nat.zero_add] at this) (by simp; omega)
    · by_cases hB : o < 1006
      · have eg : gam o = o - 900 := by unfold gam; rw [if_neg hA, if_pos (by omega)]
        have es : stp vs o st = vs (o - 1000) :: st := by unfold stp; rw [if_neg hA, if_pos (by omega)]
        rw [if_pos (by omega)] at hts
        have hl2 : ts.length < 26 := by
          by_cases h9 : ts.length < 26
          · exact h9
          · rw [if_neg h9] at hts; cases hts
        rw [es] at hrec
        have c1 : ¬ nI (gam o) < 100 := by rw [eg, q100]; exact nI_nlt (by omega) (by omega)
        have c2 : nI (gam o) < 1000 := by rw [eg, q1000]; exact nI_lt (by omega) (by omega)
        have c3 : nI (gam o) - 100 = nI (o - 1000) := by rw [eg, q100, nI_sub (by omega), show o - 900 - 100 = o - 1000 by omega]
        rw [if_neg c1, if_pos c2, c3, ai_204 hs (by omega), Option.bind_some, hvs _ (by omega), si_203 hs (by omega), Option.bind_some]
        show ∃ g, _ ∧ stk 0 g (ev vs ops (stp vs o st))
        rw [es]
        exact hrec (up2 I 203 st.length (vs (o - 1000))) (fun b hb => up2_ne _ _ _ hb) (by rw [up2_row]; have := stk_push 0 (I 203) (vs (o - 1000)) st hstk; rwa [Nat.zero_add] at this) (by simp; omega)
      · rw [if_neg hB] at hts
        have eg : 2000 ≤ o → gam o = o - 1990 := fun h9 => by unfold gam; rw [if_neg hA, if_neg (by omega)]
        by_cases hN : o = 2008
        · subst hN
          rw [if_neg (by omega), if_neg (by omega), if_pos rfl] at hts
          match ts, st, hts, htv with
          | true :: t, a :: u, hts, htv =>
            have es : stp vs 2008 (a :: u) = (1 - a) :: u := rfl
            rw [es] at hrec
            simp only [List.length_cons] at hlen
            have c1 : nI (gam 2008) < 100 := by decide
            have c2 : nI (gam 2008) = 18 := rfl
            have ha0 : I 203 u.length = a := by have := hstk.1; rwa [Nat.zero_add] at this
            simp only [List.length_cons]
            rw [if_pos c1, if_pos c2, nI_sub1 (by omega), Nat.add_sub_cancel, ai_203 hs (by omega), Option.bind_some, si_203 hs (by omega), Option.bind_some, ha0]
            exact hrec (up2 I 203 u.length (1 - a)) (fun b hb => up2_ne _ _ _ hb) (by rw [up2_row]; have := stk_push 0 (I 203) (1 - a) u hstk.2; rwa [Nat.zero_add] at this) (by simp; omega)
          | true :: t, [], hts, htv => exact htv.elim
          | [], _, hts, _ => cases hts
          | false :: _, _, hts, _ => cases hts
        · have hD : 2000 ≤ o ∧ o < 2008 := by
            by_cases h8 : 2000 ≤ o ∧ o < 2006
            · omega
            · rw [if_neg h8] at hts
              by_cases h7 : o = 2006 ∨ o = 2007
              · omega
              · rw [if_neg h7, if_neg hN] at hts; cases hts
          obtain ⟨y, x, u, hst, hxy⟩ : ∃ y x u, st = y :: x :: u ∧ (6 ≤ o - 2000 → (x = 0 ∨ x = 1) ∧ (y = 0 ∨ y = 1)) := by
            by_cases h8 : 2000 ≤ o ∧ o < 2006
            · rw [if_pos h8] at hts
              match ts, st, hts, htv with
              | false :: false :: t, y :: x :: u, _, _ => exact ⟨y, x, u, rfl, fun h9 => by omega⟩
              | false :: false :: t, [], h, hv => exact hv.elim
              | false :: false :: t, [_], h, hv => exact hv.2.elim
              | [], _, h, _ => cases h
              | [true], _, h, _ => cases h
              | [false], _, h, _ => cases h
              | true :: _ :: _, _, h, _ => cases h
              | false :: true :: _, _, h, _ => cases h
            · rw [if_neg h8, if_pos (by omega)] at hts
              match ts, st, hts, htv with
              | true :: true :: t, y :: x :: u, _, hv => exact ⟨y, x, u, rfl, fun _ => ⟨hv.2.1 rfl, hv.1 rfl⟩⟩
              | true :: true :: t, [], h, hv => exact hv.elim
              | true :: true :: t, [_], h, hv => exact hv.2.elim
              | [], _, h, _ => cases h
              | [true], _, h, _ => cases h
              | [false], _, h, _ => cases h
              | false :: _ :: _, _, h, _ => cases h
              | true :: false :: _, _, h, _ => cases h
          subst hst
          have es : stp vs o (y :: x :: u) = lw_op (o - 2000) x y :: u := by unfold stp; rw [if_neg hA, if_neg (by omega), if_neg hN]
          rw [es] at hrec
          simp only [List.length_cons] at hlen
          have e2 := eg hD.1
          have c1 : nI (gam o) < 100 := by rw [e2, q100]; exact nI_lt (by omega) (by omega)
          have c2 : ¬ nI (gam o) = 18 := by rw [e2, q18]; intro h9; have := (nI_eq (by omega) (by omega)).mp h9; omega
          have c3 : gam o = 10 + (o - 2000) := by omega
          have hy0 : I 203 (u.length + 1) = y := by have := hstk.1; rwa [Nat.zero_add] at this
          have hx0 : I 203 u.length = x := by have := hstk.2.1; rwa [Nat.zero_add] at this
          simp only [List.length_cons]
          rw [if_pos c1, if_neg c2, nI_m1 (by omega), Nat.add_sub_cancel, nI_sub1 (by omega), Nat.add_sub_cancel, ai_203 hs (by omega), Option.bind_some, ai_203 hs (by omega), Option.bind_some, hy0, hx0, c3, e_done (by omega) x y hxy, b2_some, si_203 hs (by omega), Option.bind_some]
          show ∃ g, _ ∧ stk 0 g (ev vs ops (stp vs o (y :: x :: u)))
          rw [es]
          exact hrec (up2 I 203 u.length (lw_op (o - 2000) x y)) (fun b hb => up2_ne _ _ _ hb) (by rw [up2_row]; have := stk_push 0 (I 203) (lw_op (o - 2000) x y) u hstk.2.2; rwa [Nat.zero_add] at this) (by simp; omega)
/-- what a law comes to -/
def lawv (vs : Nat → Int32) (ops : List Nat) : Int32 := (ev vs ops []).headD 0
theorem stk_1 {off : Nat} {g : Nat → Int32} {l : List Int32} (h : stk off g l) (h1 : l.length = 1) : g off = l.headD 0 := by
  match l, h1, h with
  | [a], _, h => have := h.1; simpa using this
theorem ev_len {vs : Nat → Int32} : ∀ (ops : List Nat) (ts tz : List Bool) (st : List Int32), tys ops ts = some tz → tv ts st → tv tz (ev vs ops st)
  | [], ts, tz, st, h, hv => by cases h; exact hv
  | o :: ops, ts, tz, st, h, hv => by
    unfold tys at h
    cases hts : tst o ts with
    | none => rw [hts] at h; cases h
    | some t1 => rw [hts] at h; exact ev_len ops t1 tz _ h (tst_tv hts hv)
theorem e_lawOf (hs : St S R) {many at_ : Nat} (hm : many < 8) (ha : at_ ≤ 2301) (ops : List Nat) (b : Bool) (I : mkI) (hk : ops.length ≤ 900) (hmany : I 198 many = nI ops.length) (hcode : ∀ j : Nat, j < ops.length → I 198 (at_ + j) = nI (gam (ops.getD j 0))) (hty : tys ops [] = some [b]) :
    ∃ g : Nat → Int32, F_X12_lawOf (some 197) (nI many) (nI at_) (mk S I L R n) = some (lawv (I 204) ops, mk S (up1 I 203 g) L R n) := by
  obtain ⟨g, hg, hg2⟩ := e_lawL (n := n) (L := L) hs hm ha (I 204) ops mm_N 0 I [] [] [b] (by show ops.length < 1000000; omega) (by omega) (by rw [hmany, Nat.zero_add]) (fun j hj => by rw [Nat.add_zero]; exact hcode j hj) hty trivial trivial (by simp) (fun _ _ => rfl)
  refine ⟨g, ?_⟩
  have h1 : (ev (I 204) ops []).length = 1 := (tv_len _ _ (ev_len ops [] [b] [] hty trivial)).symm
  unfold F_X12_lawOf lawv
  rw [← stk_1 hg2 h1]
  exact hg
end RL
