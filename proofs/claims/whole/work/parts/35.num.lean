/-! remainders of small numbers -/
theorem remI_toInt {x : Int32} {w : Nat} (hw : 0 < w) (hw2 : w ≤ 1000) (hx : -1073741824 ≤ x.toInt ∧ x.toInt ≤ 1073741824) : (remI x (nI w)).toInt = x.toInt.tmod (w : Int) := by
  have e := Int.tmod_def x.toInt (w : Int)
  have b0 := tmod_bounds (a := x.toInt) (M := (w : Int)) (by omega)
  have b1 := Int.natAbs_tdiv_le_natAbs x.toInt (w : Int)
  have e2 : (w : Int) * x.toInt.tdiv (w : Int) = x.toInt.tdiv (w : Int) * (w : Int) := Int.mul_comm _ _
  rw [e2] at e
  unfold remI
  rw [Int32.toInt_sub, Int32.toInt_mul, Int32.toInt_div, nI_toInt (by omega)]
  rw [Int.bmod_eq_of_le (n := x.toInt.tdiv (w : Int)) (by omega) (by omega)]
  generalize x.toInt.tdiv (w : Int) * (w : Int) = p at e ⊢
  rw [Int.bmod_eq_of_le (n := p) (by omega) (by omega), Int.bmod_eq_of_le (by omega) (by omega)]
  omega
theorem i32_of {x : Int32} {k : Nat} (h : x.toInt = (k : Int)) (hk : k < 2147483648) : x = nI k := by
  apply Int32.toInt_inj.mp
  rw [h, nI_toInt (by omega)]
/-- where a call comes to is a line -/
theorem aComes_lt {P : PL} (hP : PlOK P) {to : Nat} (hto : to < pW P) (fr mi c : Int32) (hb : ∀ v, v = lawv (vr fr (nI to) (remI mi 60) c 0 0) (pS P) → -1000000 ≤ v.toInt ∧ v.toInt ≤ 1000000) : ∃ b, b < pW P ∧ aComes P fr (nI to) mi c = nI b := by
  obtain ⟨w1, w2, -⟩ := hP
  unfold aComes
  by_cases h : pS P = []
  · rw [if_pos h]; exact ⟨to, hto, rfl⟩
  · rw [if_neg h]
    have hv := hb _ rfl
    generalize lawv (vr fr (nI to) (remI mi 60) c 0 0) (pS P) = v at hv ⊢
    have hs : (nI to + v).toInt = (to : Int) + v.toInt := by
      rw [Int32.toInt_add, nI_toInt (by omega), Int.bmod_eq_of_le (by omega) (by omega)]
    have hr := remI_toInt (x := nI to + v) (w := pW P) (by omega) (by omega) (by rw [hs]; omega)
    have hbd := tmod_bounds (a := (nI to + v).toInt) (M := (pW P : Int)) (by omega)
    rw [← hr] at hbd
    generalize remI (nI to + v) (nI (pW P)) = t at hbd ⊢
    by_cases q : t < 0
    · rw [if_pos q]
      rw [Int32.lt_iff_toInt_lt] at q
      have q : t.toInt < 0 := q
      refine ⟨(t.toInt + pW P).toNat, by omega, i32_of ?_ (by omega)⟩
      rw [Int32.toInt_add, nI_toInt (by omega), Int.bmod_eq_of_le (by omega) (by omega)]
      omega
    · rw [if_neg q]
      rw [Int32.lt_iff_toInt_lt] at q
      have q : ¬ t.toInt < 0 := q
      exact ⟨t.toInt.toNat, by omega, i32_of (by omega) (by omega)⟩
/-- what is bounded -/
def bdd (x : Int32) : Prop := -1000000 ≤ x.toInt ∧ x.toInt ≤ 1000000
theorem bdd_cl (v : Int64) : bdd (lw_cl v) := by
  unfold lw_cl mxL mnL
  have e1 : (1000000 : Int64).toInt = 1000000 := by decide
  have e2 : (-1000000 : Int64).toInt = -1000000 := by decide
  have key : ∀ z : Int64, -1000000 ≤ z.toInt → z.toInt ≤ 1000000 → bdd z.toInt32 := by
    intro z h1 h2
    unfold bdd
    rw [Int64.toInt_toInt32, Int.bmod_eq_of_le (by omega) (by omega)]
    exact ⟨h1, h2⟩
  by_cases h1 : v < 1000000
  · rw [if_pos h1]
    rw [Int64.lt_iff_toInt_lt] at h1
    by_cases h2 : v < -1000000
    · rw [if_pos h2]; exact key _ (by omega) (by omega)
    · rw [if_neg h2]
      rw [Int64.lt_iff_toInt_lt] at h2
      exact key _ (by omega) (by omega)
  · rw [if_neg h1, if_neg (by decide)]
    exact key _ (by omega) (by omega)
theorem bdd_b (b : Bool) : bdd (b2i b) := by cases b <;> exact ⟨by decide, by decide⟩
theorem bdd_op (k : Nat) (x y : Int32) : bdd (lw_op k x y) := by
  unfold lw_op
  split
  · exact bdd_cl _
  · exact bdd_cl _
  · exact bdd_cl _
  · exact bdd_b _
  · exact bdd_b _
  · exact bdd_b _
  · exact bdd_b _
  · exact bdd_b _
theorem bdd_stp {vs : Nat → Int32} (hv : ∀ j, bdd (vs j)) {o : Nat} {ts t1 : List Bool} {st : List Int32} (ht : tst o ts = some t1) (htv : tv ts st) (h : ∀ x ∈ st, bdd x) : ∀ x ∈ stp vs o st, bdd x := by
  have htv1 := tst_tv (vs := vs) ht htv
  unfold stp at htv1 ⊢
  by_cases hA : o < 1000
  · rw [if_pos hA]
    intro x hx
    rcases List.mem_cons.mp hx with rfl | hx
    · unfold bdd; rw [nI_toInt (by omega)]; omega
    · exact h x hx
  · rw [if_neg hA] at htv1 ⊢
    by_cases hB : o < 2000
    · rw [if_pos hB]
      intro x hx
      rcases List.mem_cons.mp hx with rfl | hx
      · exact hv _
      · exact h x hx
    · rw [if_neg hB] at htv1 ⊢
      by_cases hN : o = 2008
      · rw [if_pos hN] at htv1 ⊢
        match st, h, htv1, htv with
        | [], h, _, _ => intro x hx; cases hx
        | a :: t, h, htv1, htv =>
          intro x hx
          rcases List.mem_cons.mp hx with rfl | hx
          · subst hN
            unfold tst at ht
            rw [if_neg (by omega), if_neg (by omega), if_neg (by omega), if_pos rfl] at ht
            match ts, ht, htv with
            | true :: _, _, hq =>
              rcases hq.1 rfl with rfl | rfl
              · exact ⟨by decide, by decide⟩
              · exact ⟨by decide, by decide⟩
            | [], ht, _ => cases ht
            | false :: _, ht, _ => cases ht
          · exact h x (List.mem_cons_of_mem _ hx)
      · rw [if_neg hN]
        match st, h with
        | [], h => exact h
        | [_], h => exact h
        | y :: x :: t, h =>
          intro z hz
          rcases List.mem_cons.mp hz with hz | hz
          · rw [hz]; exact bdd_op _ _ _
          · exact h z (List.mem_cons_of_mem _ (List.mem_cons_of_mem _ hz))
theorem bdd_ev {vs : Nat → Int32} (hv : ∀ j, bdd (vs j)) : ∀ (ops : List Nat) (ts tz : List Bool) (st : List Int32), tys ops ts = some tz → tv ts st → (∀ x ∈ st, bdd x) → ∀ x ∈ ev vs ops st, bdd x
  | [], _, _, _, _, _, h => h
  | o :: ops, ts, tz, st, ht, htv, h => by
    unfold tys at ht
    cases hts : tst o ts with
    | none => rw [hts] at ht; cases ht
    | some t1 =>
      rw [hts] at ht
      exact bdd_ev hv ops t1 tz _ ht (tst_tv hts htv) (bdd_stp hv hts htv h)
theorem bdd_lawv {vs : Nat → Int32} (hv : ∀ j, bdd (vs j)) {ops : List Nat} {b : Bool} (ht : tys ops [] = some [b]) : bdd (lawv vs ops) := by
  have h := bdd_ev hv ops [] [b] [] ht trivial (fun x hx => nomatch hx)
  unfold lawv
  cases hq : ev vs ops [] with
  | nil => exact ⟨by decide, by decide⟩
  | cons a t => rw [hq] at h; exact h a List.mem_cons_self
