/-! the most calls: the class, put together -/
theorem meO {Q : BQ} {C c : Nat} (p : Nat → Bool) : orB p (List.range' 0 C) 0 < 2 ^ C ∧ ∀ d, d < C → (orB p (List.range' 0 C) 0).testBit d = p d := by
  refine ⟨orB_lt _ _ (fun d hd => by have := List.mem_range'_1.mp hd; omega) (Nat.two_pow_pos _), fun d hd => ?_⟩
  rw [orB_bit, Nat.zero_testBit, Bool.false_or, decide_eq_true (List.mem_range'_1.mpr ⟨Nat.zero_le _, by omega⟩), Bool.true_and]
theorem pSet_fit {Q : BQ} (hQ : qSym Q) {K C v : Nat} (hC : C ≤ 10) (hv : v < 2 ^ C) (hv2 : ∀ c k, c < C → k < K → qE Q c = true → qC Q k c = true → v.testBit c = true) {s : Nat} (hs : s < 2 ^ C) : pSet Q K C v s = true ↔ Fit Q K C s := by
  have hC10 : 2 ^ C ≤ 2 ^ 10 := Nat.pow_le_pow_right (by decide) hC
  unfold pSet
  rw [Bool.and_eq_true, decide_eq_true_eq, sub_bits s v (by omega) (by omega), fB_fit hQ hC hs]
  constructor
  · exact fun h => h.2
  · intro h
    refine ⟨fun d hd => ?_, h⟩
    have hdC : d < C := by
      refine Nat.lt_of_not_le (fun q => ?_)
      rw [bit_lo hs d q] at hd; cases hd
    obtain ⟨-, κ, hκ⟩ := h
    obtain ⟨k, hk, -, hok⟩ := (hκ d hdC).1 hd
    exact hv2 d k hdC hk hok.1 hok.2.1
section CB2
variable {S : mkS} {L : mkL} {R : mkR} {n : Nat × Nat} {P : PL} {p co : Nat} {C M : Nat} {f : Nat → Int32} {F T A D : Nat → Nat}
theorem c_12 (hs : St S R) (hP : PlOK P) (hb : BdS S R 170 174 co) (hV : BV P C f F T A D) (told : Bool) : ∀ (r g c : Nat) (I : mkI), c + r = C → r < g → I 174 = f → (∀ d, d < c → I 144 d = nI (orB (meP (bQ P told C f F T A D M) d) (List.range' 0 C) 0) ∧ I 145 d = nI (orB (clP (bQ P told C f F T A D M) d) (List.range' 0 C) 0)) → ∃ I', F_X4_seek_12 g (some 135) (some 170) (nI C) (nI c) (mk S I L R n) = F_X4_seek_35 mm_N (some 135) (nI C) 0 0 (mk S I' L R n) ∧ (∀ d, d < C → I' 144 d = nI (orB (meP (bQ P told C f F T A D M) d) (List.range' 0 C) 0) ∧ I' 145 d = nI (orB (clP (bQ P told C f F T A D M) d) (List.range' 0 C) 0)) ∧ ∀ x, x ≠ 144 → x ≠ 145 → I' x = I x := by
  have hC := hV.1
  intro r
  induction r with
  | zero =>
    intro g c I hc hg hI hd
    obtain ⟨g, rfl⟩ : ∃ y, g = y + 1 := ⟨g - 1, by omega⟩
    refine ⟨I, ?_, fun d h => hd d (by omega), fun _ _ _ => rfl⟩
    simp only [F_X4_seek_12]
    rw [if_pos (nI_le (by omega) (by omega))]
  | succ r ih =>
    intro g c I hc hg hI hd
    obtain ⟨g, rfl⟩ : ∃ y, g = y + 1 := ⟨g - 1, by omega⟩
    have hcC : c < C := by omega
    obtain ⟨I', z1, z2, z3⟩ := ih g (c + 1) (up2 (up2 I 144 c (nI (orB (meP (bQ P told C f F T A D M) c) (List.range' 0 C) 0))) 145 c (nI (orB (clP (bQ P told C f F T A D M) c) (List.range' 0 C) 0))) (by omega) (by omega) (by rw [up2_ne _ _ _ (by decide), up2_ne _ _ _ (by decide)]; exact hI) (fun d h => by
      rw [up2_ne _ _ _ (show (144 : Nat) ≠ 145 by decide), up2_row, up2_row, up2_ne _ _ _ (show (145 : Nat) ≠ 144 by decide)]
      by_cases e : d = c
      · rw [e, up1_self, up1_self]; exact ⟨rfl, rfl⟩
      · rw [up1_ne _ _ e, up1_ne _ _ e]; exact hd d (by omega))
    refine ⟨I', ?_, z2, fun x h1 h2 => by rw [z3 x h1 h2, up2_ne _ _ _ h2, up2_ne _ _ _ h1]⟩
    simp only [F_X4_seek_12]
    rw [if_neg (nI_ge (by omega) (by omega)), cv_135 hs, c_oth (M := M) hs hP hb hV hI told hcC, Option.bind_some, nI_1]
    exact z1
/-- the calls that some cord takes -/
theorem c_35 (hs : St S R) {Q : BQ} {I : mkI} {K : Nat} (hK : K ≤ 3) (h5 : I 135 5 = nI K) (ht : ∀ k, k < K → ∃ t, I 142 k = nI t ∧ t < 2 ^ C ∧ ∀ c, c < C → t.testBit c = (qE Q c && qC Q k c)) : ∀ (r g k v : Nat), k + r = K → r < g → v < 2 ^ C → (∀ c j, c < C → j < k → qE Q c = true → qC Q j c = true → v.testBit c = true) → ∃ v', F_X4_seek_35 g (some 135) (nI C) (nI v) (nI k) (mk S I L R n) = F_X4_seek_66 (some 135) (nI C) (nI v') (mk S I L R n) ∧ v' < 2 ^ C ∧ ∀ c j, c < C → j < K → qE Q c = true → qC Q j c = true → v'.testBit c = true := by
  intro r
  induction r with
  | zero =>
    intro g k v hk hg hv hb
    obtain ⟨g, rfl⟩ : ∃ y, g = y + 1 := ⟨g - 1, by omega⟩
    refine ⟨v, ?_, hv, fun c j hc hj => hb c j hc (by omega)⟩
    simp only [F_X4_seek_35]
    rw [gi_135_5 hs, Option.bind_some, h5, if_pos (nI_le (by omega) (by omega))]
  | succ r ih =>
    intro g k v hk hg hv hb
    obtain ⟨g, rfl⟩ : ∃ y, g = y + 1 := ⟨g - 1, by omega⟩
    obtain ⟨t, t1, t2, t3⟩ := ht k (by omega)
    obtain ⟨v', z1, z2, z3⟩ := ih g (k + 1) (v ||| t) (by omega) (by omega) (Nat.or_lt_two_pow hv t2) (fun c j hc hj q1 q2 => by
      rw [Nat.testBit_or]
      by_cases e : j = k
      · rw [t3 c hc, q1, ← e, q2]; simp
      · rw [hb c j hc (by omega) q1 q2, Bool.true_or])
    refine ⟨v', ?_, z2, z3⟩
    simp only [F_X4_seek_35]
    rw [gi_135_5 hs, Option.bind_some, h5, if_neg (nI_ge (by omega) (by omega)), if_neg (show ¬ (3 : Int32) ≤ nI k from ge_li 3 (by omega) (by decide)), gr_135_1 hs, Option.bind_some, ai_142 hs (by omega), Option.bind_some, t1, nI_or, nI_1]
    exact z1
/-- the whole search, from the cords' rows on -/
theorem c_seek (hs : St S R) (hP : PlOK P) (hb : BdS S R 170 174 co) (hV : BV P C f F T A D) (told : Bool) {I : mkI} (hI : I 174 = f) {K : Nat} (hK : K ≤ 3) (h5 : I 135 5 = nI K) (ht : ∀ k, k < K → ∃ t, I 142 k = nI t ∧ t < 2 ^ C ∧ ∀ c, c < C → t.testBit c = (qE (bQ P told C f F T A D M) c && qC (bQ P told C f F T A D M) k c)) : ∃ I' a, F_X4_seek (some 135) (some 170) (mk S I L R n) = some (mk S I' L R n) ∧ gC (bQ P told C f F T A D M) K C 0 0 (fun _ => none) none = some a ∧ I' 135 6 = nI a.1 ∧ I' 135 7 = nI a.2 ∧ kF I I' := by
  have hC := hV.1
  have hC10 : 2 ^ C ≤ 2 ^ 10 := Nat.pow_le_pow_right (by decide) hC
  have h2p : 1 ≤ 2 ^ C := Nat.one_le_two_pow
  obtain ⟨I1, z1, z2, z3⟩ := c_12 (M := M) (L := L) (n := n) hs hP hb hV told C mm_N 0 I (by omega) (by show C < 1000000; omega) hI (fun d h => absurd h (Nat.not_lt_zero _))
  have h5' : I1 135 5 = nI K := by rw [z3 _ (by decide) (by decide)]; exact h5
  have ht' : ∀ k, k < K → ∃ t, I1 142 k = nI t ∧ t < 2 ^ C ∧ ∀ c, c < C → t.testBit c = (qE (bQ P told C f F T A D M) c && qC (bQ P told C f F T A D M) k c) := fun k hk => by rw [z3 _ (by decide) (by decide)]; exact ht k hk
  obtain ⟨v, w1, w2, w3⟩ := c_35 (C := C) (L := L) (n := n) hs hK h5' ht' K mm_N 0 0 (by omega) (by show K < 1000000; omega) (Nat.two_pow_pos _) (fun c j _ h => absurd h (Nat.not_lt_zero _))
  obtain ⟨I2, hI2⟩ : ∃ I2, I2 = up2 (up2 I1 135 6 0) 135 7 0 := ⟨_, rfl⟩
  have k2 : ∀ x, x ≠ 135 → I2 x = I1 x := fun x hx => by rw [hI2, up2_ne _ _ _ hx, up2_ne _ _ _ hx]
  have hB : BSt (bQ P told C f F T A D M) K C I2 := by
    refine ⟨by rw [hI2, up2_row, up1_ne _ _ (by decide), up2_row, up1_ne _ _ (by decide)]; exact h5', fun k hk => ?_, fun c hc => ?_, fun c hc => ?_⟩
    · rw [k2 _ (by decide)]; exact ht' k hk
    · obtain ⟨a, b⟩ := meO (Q := bQ P told C f F T A D M) (C := C) (c := c) (meP (bQ P told C f F T A D M) c)
      exact ⟨_, by rw [k2 _ (by decide)]; exact (z2 c hc).1, a, b⟩
    · obtain ⟨a, b⟩ := meO (Q := bQ P told C f F T A D M) (C := C) (c := c) (clP (bQ P told C f F T A D M) c)
      exact ⟨_, by rw [k2 _ (by decide)]; exact (z2 c hc).2, a, b⟩
  obtain ⟨I', y1, y2, y3, y4⟩ := c_seekL (L := L) (n := n) hs hK hC (v := v) (2 ^ C - 1) mm_N 1 (0, 0) I2 (by omega) (by show 2 ^ C - 1 < 1000000; omega) (Nat.le_refl _) hB (by rw [hI2, up2_row, up1_ne _ _ (by decide), up2_self]; rfl) (by rw [hI2, up2_self]; rfl) (by decide)
  refine ⟨I', _, ?_, best_same (bQ_sym P told C f F T A D M) hC (fun s hs => pSet_fit (bQ_sym P told C f F T A D M) hC w2 w3 hs), y2, y3, (show kF I I2 from fun x hx => by rw [k2 x (by show x ≠ 135; omega), z3 x (by show x ≠ 144; omega) (by show x ≠ 145; omega)]).tr y4⟩
  unfold F_X4_seek
  rw [bd_v hb, fc_n hb hV hI, b2_some, show mnI (nI C) 10 = nI C by rw [show (10 : Int32) = nI 10 from rfl, mnI_nI (by omega) (by omega), Nat.min_eq_left hC]]
  refine z1.trans (w1.trans ?_)
  unfold F_X4_seek_66
  rw [pi_135_6 hs, Option.bind_some, pi_135_7 hs, Option.bind_some, ← hI2]
  exact y1
theorem c_23 (hs : St S R) (hP : PlOK P) (hb : BdS S R 170 174 co) (hpl : R 170 2 = some p) (hV : BV P C f F T A D) (hM : M ≤ 300000) {v : Nat} (hv : AbS P C f F T A D M v) : ∀ (r g k : Nat) (I : mkI), k + r = pC P → r < g → CPlan P S R I p → I 174 = f → I 135 5 = nI (pC P) → CoR (pW P) (pC P) C f M (I 138) (I 139) → (∀ j, j < k → ∃ t, I 142 j = nI t ∧ t < 2 ^ C ∧ ∀ c, c < C → t.testBit c = (qE (bQ P true C f F T A D M) c && qC (bQ P true C f F T A D M) j c)) → ∃ I' a, F_X4_seekByBoard_23 g (some 135) (some 170) (nI v) (nI k) (mk S I L R n) = some (mk S I' L R n) ∧ gC (bQ P true C f F T A D M) (pC P) C 0 0 (fun _ => none) none = some a ∧ I' 135 6 = nI a.1 ∧ I' 135 7 = nI a.2 ∧ kF I I' := by
  have w2 := hP.2.1
  have w3 := hP.2.2.1
  have hC := hV.1
  intro r
  induction r with
  | zero =>
    intro g k I hk hg hp hI h5 hR ht
    obtain ⟨g, rfl⟩ : ∃ y, g = y + 1 := ⟨g - 1, by omega⟩
    obtain ⟨I', a, z1, z0, z2, z3, z4⟩ := c_seek (M := M) (L := L) (n := n) hs hP hb hV true hI (K := pC P) w3 h5 (fun j hj => ht j (by omega))
    refine ⟨I', a, ?_, z0, z2, z3, z4⟩
    simp only [F_X4_seekByBoard_23]
    rw [gi_135_5 hs, Option.bind_some, h5, if_pos (nI_le (by omega) (by omega)), cv_135 hs, z1, Option.bind_some]
  | succ r ih =>
    intro g k I hk hg hp hI h5 hR ht
    obtain ⟨g, rfl⟩ : ∃ y, g = y + 1 := ⟨g - 1, by omega⟩
    have htk := c_takL (L := L) (n := n) hs hP hb hpl hV hp hI (show k < pC P by omega) C mm_N 0 0 (by omega) (by show C < 1000000; omega)
    obtain ⟨y, hy⟩ : ∃ y, y = orB (fun c => rbo P k (F c) (T c) && decide (¬ nI (A c) < I 139 k)) (List.range' 0 C) 0 := ⟨_, rfl⟩
    rw [← hy] at htk
    obtain ⟨m1, m2⟩ := meO (Q := bQ P true C f F T A D M) (C := C) (c := 0) (fun c => rbo P k (F c) (T c) && decide (¬ nI (A c) < I 139 k))
    rw [← hy] at m1 m2
    obtain ⟨I', a, z1, z0, z2, z3, z4⟩ := ih g (k + 1) (up2 I 142 k (nI (v &&& y))) (by omega) (by omega) (hp.kf (kF.up (by decide))) (by rw [up2_ne _ _ _ (by decide)]; exact hI) (by rw [up2_ne _ _ _ (by decide)]; exact h5) (by rw [up2_ne _ _ _ (by decide), up2_ne _ _ _ (by decide)]; exact hR) (fun j hj => by
      rw [up2_row]
      by_cases e : j = k
      · subst e
        refine ⟨v &&& y, up1_self _ _ _, Nat.lt_of_le_of_lt Nat.and_le_left hv.1, fun c hc => ?_⟩
        rw [Nat.testBit_and, hv.2 c hc, m2 c hc]
        cases eq : qE (bQ P true C f F T A D M) c with
        | false => rfl
        | true =>
          rw [Bool.true_and, Bool.true_and]
          have hMA : M ≤ A c := by
            have : (decide (f (15 + 7 * c) = 0) && (decide (M ≤ A c) && (frB C f (F c) (A c) && frB C f (T c) (A c)))) = true := eq
            simp only [Bool.and_eq_true, decide_eq_true_eq] at this
            exact this.2.1
          show (rbo P j (F c) (T c) && decide (¬ nI (A c) < I 139 j)) = (!true || (rbo P j (F c) (T c) && decide (onT C f (nI (A c)) (nI j) = -1)))
          rw [Bool.not_true, Bool.false_or]
          congr 1
          obtain ⟨x, x1, x2, x3⟩ := hR.2 j (by omega)
          obtain ⟨-, -, -, ⟨-, hA⟩, -⟩ := hV.2.2 c hc
          rw [decide_eq_decide, x1, ← x3 (A c) hMA (by omega), nI_ltI (by omega) (by omega)]
          omega
      · rw [up1_ne _ _ e]; exact ht j (by omega))
    refine ⟨I', a, ?_, z0, z2, z3, (kF.up (by decide)).tr z4⟩
    simp only [F_X4_seekByBoard_23]
    rw [gi_135_5 hs, Option.bind_some, h5, if_neg (nI_ge (by omega) (by omega)), gr_135_1 hs, Option.bind_some, cv_135 hs, show F_X4_takenBy (some 135) (some 170) (nI k) (mk S I L R n) = some (nI y, mk S I L R n) from htk, b2_some, nI_and, si_142 hs (by omega), Option.bind_some, nI_1]
    exact z1
theorem c_byBoard (hs : St S R) (hP : PlOK P) (hw : LW S) (hb : BdS S R 170 174 co) (hpl : R 170 2 = some p) {I : mkI} (hp : CPlan P S R I p) (hI : I 174 = f) (hB : BI P C f F T A D M) (hM : M ≤ 300000) : ∃ I' a, F_X4_seekByBoard (some 135) (some 170) (mk S I L R n) = some (mk S I' L R n) ∧ gC (bQ P true C f F T A D M) (pC P) C 0 0 (fun _ => none) none = some a ∧ I' 135 6 = nI a.1 ∧ I' 135 7 = nI a.2 ∧ kF I I' := by
  have w3 := hP.2.2.1
  obtain ⟨I1, hI1⟩ : ∃ I1, I1 = up2 I 135 5 (nI (pC P)) := ⟨_, rfl⟩
  have k1 : kF I I1 := by rw [hI1]; exact kF.up (by decide)
  obtain ⟨I2, v, a1, a2, a3, a4⟩ := c_able (L := L) (n := n) hs hP hw hb hpl (hp.kf k1) (by rw [k1 _ (by decide)]; exact hI) hB hM
  have k2 : kF I1 I2 := fun x hx => a4 x (by omega)
  obtain ⟨I', a, z1, z0, z2, z3, z4⟩ := c_23 (M := M) (L := L) (n := n) hs hP hb hpl hB.1 hM a2 (pC P) mm_N 0 I2 (by omega) (by show pC P < 1000000; omega) ((hp.kf k1).kf k2) (by rw [k2 _ (by decide), k1 _ (by decide)]; exact hI) (by rw [a4 _ (by decide), hI1, up2_self]) a3 (fun j h => absurd h (Nat.not_lt_zero _))
  refine ⟨I', a, ?_, z0, z2, z3, (k1.tr k2).tr z4⟩
  unfold F_X4_seekByBoard
  rw [bd_p hb hpl, Option.bind_some, pl_1 hp, Option.bind_some, show mnI (nI (pC P)) 3 = nI (pC P) by rw [show (3 : Int32) = nI 3 from rfl, mnI_nI (by omega) (by omega), Nat.min_eq_left w3], pi_135_5 hs, Option.bind_some, ← hI1, cv_135 hs, a1, b2_some]
  exact z1
theorem c_22 (hs : St S R) (hP : PlOK P) (hb : BdS S R 170 174 co) (hV : BV P C f F T A D) {v K : Nat} (hK : K ≤ 3) (hv : AbS P C f F T A D M v) : ∀ (r g k : Nat) (I : mkI), k + r = K → r < g → I 174 = f → I 135 5 = nI K → (∀ j, j < k → I 142 j = nI v) → ∃ I' a, F_X4_seekByCords_22 g (some 135) (some 170) (nI v) (nI k) (mk S I L R n) = some (mk S I' L R n) ∧ gC (bQ P false C f F T A D M) K C 0 0 (fun _ => none) none = some a ∧ I' 135 6 = nI a.1 ∧ I' 135 7 = nI a.2 ∧ kF I I' := by
  intro r
  induction r with
  | zero =>
    intro g k I hk hg hI h5 ht
    obtain ⟨g, rfl⟩ : ∃ y, g = y + 1 := ⟨g - 1, by omega⟩
    obtain ⟨I', a, z1, z0, z2, z3, z4⟩ := c_seek (M := M) (L := L) (n := n) hs hP hb hV false hI (K := K) hK h5 (fun j hj => ⟨v, ht j (by omega), hv.1, fun c hc => by rw [hv.2 c hc]; show qE (bQ P true C f F T A D M) c = (qE (bQ P false C f F T A D M) c && (!false || (rbo P j (F c) (T c) && decide (onT C f (nI (A c)) (nI j) = -1)))); rw [Bool.not_false, Bool.true_or, Bool.and_true]; rfl⟩)
    refine ⟨I', a, ?_, z0, z2, z3, z4⟩
    simp only [F_X4_seekByCords_22]
    rw [gi_135_5 hs, Option.bind_some, h5, if_pos (nI_le (by omega) (by omega)), cv_135 hs, z1, Option.bind_some]
  | succ r ih =>
    intro g k I hk hg hI h5 ht
    obtain ⟨g, rfl⟩ : ∃ y, g = y + 1 := ⟨g - 1, by omega⟩
    obtain ⟨I', a, z1, z0, z2, z3, z4⟩ := ih g (k + 1) (up2 I 142 k (nI v)) (by omega) (by omega) (by rw [up2_ne _ _ _ (by decide)]; exact hI) (by rw [up2_ne _ _ _ (by decide)]; exact h5) (fun j hj => by
      rw [up2_row]
      by_cases e : j = k
      · rw [e, up1_self]
      · rw [up1_ne _ _ e]; exact ht j (by omega))
    refine ⟨I', a, ?_, z0, z2, z3, (kF.up (by decide)).tr z4⟩
    simp only [F_X4_seekByCords_22]
    rw [gi_135_5 hs, Option.bind_some, h5, if_neg (nI_ge (by omega) (by omega)), gr_135_1 hs, Option.bind_some, si_142 hs (by omega), Option.bind_some, nI_1]
    exact z1
theorem c_byCords (hs : St S R) (hP : PlOK P) (hw : LW S) (hb : BdS S R 170 174 co) (hpl : R 170 2 = some p) {I : mkI} (hp : CPlan P S R I p) (hI : I 174 = f) (hB : BI P C f F T A D M) (hM : M ≤ 300000) {K : Nat} (hK : K ≤ 3) : ∃ I' a, F_X4_seekByCords (some 135) (some 170) (nI K) (mk S I L R n) = some (mk S I' L R n) ∧ gC (bQ P false C f F T A D M) K C 0 0 (fun _ => none) none = some a ∧ I' 135 6 = nI a.1 ∧ I' 135 7 = nI a.2 ∧ kF I I' := by
  obtain ⟨I1, hI1⟩ : ∃ I1, I1 = up2 I 135 5 (nI K) := ⟨_, rfl⟩
  have k1 : kF I I1 := by rw [hI1]; exact kF.up (by decide)
  obtain ⟨I2, v, a1, a2, a3, a4⟩ := c_able (L := L) (n := n) hs hP hw hb hpl (hp.kf k1) (by rw [k1 _ (by decide)]; exact hI) hB hM
  have k2 : kF I1 I2 := fun x hx => a4 x (by omega)
  obtain ⟨I', a, z1, z0, z2, z3, z4⟩ := c_22 (M := M) (L := L) (n := n) hs hP hb hB.1 hK a2 K mm_N 0 I2 (by omega) (by show K < 1000000; omega) (by rw [k2 _ (by decide), k1 _ (by decide)]; exact hI) (by rw [a4 _ (by decide), hI1, up2_self]) (fun j h => absurd h (Nat.not_lt_zero _))
  refine ⟨I', a, ?_, z0, z2, z3, (k1.tr k2).tr z4⟩
  unfold F_X4_seekByCords
  rw [show mxI 0 (mnI (nI K) 3) = nI K by rw [show (3 : Int32) = nI 3 from rfl, mnI_nI (by omega) (by omega), Nat.min_eq_left hK, show (0 : Int32) = nI 0 from rfl, mxI_nI (by omega) (by omega), Nat.max_eq_right (Nat.zero_le _)], pi_135_5 hs, Option.bind_some, ← hI1, cv_135 hs, a1, b2_some]
  exact z1
end CB2
