/-! the most calls: the class -/
/-- what a board asks -/
def frB (C : Nat) (f : Nat → Int32) (l t : Nat) : Bool := decide (hasB (f 2) (nI l) = false ∧ busyT C f (nI t) (nI l) = -1)
def bQ (P : PL) (told : Bool) (C : Nat) (f : Nat → Int32) (F T A D : Nat → Nat) (M : Nat) : BQ :=
  (fun c => decide (f (15 + 7 * c) = 0) && (decide (M ≤ A c) && (frB C f (F c) (A c) && frB C f (T c) (A c))),
   fun k c => !told || (rbo P k (F c) (T c) && decide (onT C f (nI (A c)) (nI k) = -1)),
   fun c d => decide (A c < A d + D d ∧ A d < A c + D c),
   fun c d => decide (F c = F d ∨ F c = T d ∨ T c = F d ∨ T c = T d))
theorem bQ_sym (P : PL) (told : Bool) (C : Nat) (f : Nat → Int32) (F T A D : Nat → Nat) (M : Nat) : qSym (bQ P told C f F T A D M) := by
  constructor
  · intro c d
    show decide _ = decide _
    rw [decide_eq_decide]; omega
  · intro c d
    show decide _ = decide _
    rw [decide_eq_decide]; omega
def kF (I I' : mkI) : Prop := ∀ x, ¬ (135 ≤ x ∧ x ≤ 145) → I' x = I x
theorem kF.rf {I : mkI} : kF I I := fun _ _ => rfl
theorem kF.tr {I I' I'' : mkI} (h : kF I I') (h2 : kF I' I'') : kF I I'' := fun x q => (h2 x q).trans (h x q)
theorem kF.up {I : mkI} {x k : Nat} {v : Int32} (hx : 135 ≤ x ∧ x ≤ 145) : kF I (up2 I x k v) := fun y q => up2_ne _ _ _ (fun e => q (e ▸ hx))
section CBe
variable {S : mkS} {L : mkL} {R : mkR} {n : Nat × Nat} {P : PL} {p co : Nat} {C M : Nat} {f : Nat → Int32} {F T A D : Nat → Nat}
theorem CPlan.kf {I I' : mkI} (h : CPlan P S R I p) (hk : kF I I') : CPlan P S R I' p := h.kk (fun x hx _ => hk x (by unfold pa at hx; omega)) (fun _ _ => rfl)
theorem cos_f (hs : St S R) : CoS S R 136 137 138 139 140 141 := ⟨⟨S_136 hs, by decide⟩, ⟨R_136_0 hs, R_136_2 hs, R_136_3 hs, R_136_4 hs, R_136_5 hs⟩, ⟨S_137 hs, S_138 hs, S_139 hs, S_140 hs, S_141 hs⟩, by decide, by decide, by decide⟩
theorem npa_f : NPa 174 136 137 138 139 140 141 := by unfold NPa pa; omega
theorem fc_0 (hb : BdS S R 170 174 co) (hV : BV P C f F T A D) {I : mkI} (hI : I 174 = f) {c : Nat} (hc : c < C) : F_X0_fact (some 170) (nI c) 0 (mk S I L R n) = some (nI (F c), mk S I L R n) := by
  have := c_fact (n := n) (L := L) (w := 0) hb hV.1 (show I 174 1 = nI C by rw [hI]; exact hV.2.1) hc (by decide)
  rw [show 11 + 7 * c + 0 = 11 + 7 * c by omega, hI, (hV.2.2 c hc).1.1] at this; exact this
theorem fc_1 (hb : BdS S R 170 174 co) (hV : BV P C f F T A D) {I : mkI} (hI : I 174 = f) {c : Nat} (hc : c < C) : F_X0_fact (some 170) (nI c) 1 (mk S I L R n) = some (nI (T c), mk S I L R n) := by
  have := c_fact (n := n) (L := L) (w := 1) hb hV.1 (show I 174 1 = nI C by rw [hI]; exact hV.2.1) hc (by decide)
  rw [show 11 + 7 * c + 1 = 12 + 7 * c by omega, hI, (hV.2.2 c hc).2.1.1] at this; exact this
theorem fc_2 (hb : BdS S R 170 174 co) (hV : BV P C f F T A D) {I : mkI} (hI : I 174 = f) {c : Nat} (hc : c < C) : F_X0_fact (some 170) (nI c) 2 (mk S I L R n) = some (nI (A c), mk S I L R n) := by
  have := c_fact (n := n) (L := L) (w := 2) hb hV.1 (show I 174 1 = nI C by rw [hI]; exact hV.2.1) hc (by decide)
  rw [show 11 + 7 * c + 2 = 13 + 7 * c by omega, hI, (hV.2.2 c hc).2.2.2.1.1] at this; exact this
theorem fc_e (hb : BdS S R 170 174 co) (hV : BV P C f F T A D) {I : mkI} (hI : I 174 = f) {c : Nat} (hc : c < C) : F_X0_endOf (some 170) (nI c) (mk S I L R n) = some (nI (A c + D c), mk S I L R n) := by
  rw [c_endOf hb hV.1 (show I 174 1 = nI C by rw [hI]; exact hV.2.1) hc, hI, (hV.2.2 c hc).2.2.2.1.1, (hV.2.2 c hc).2.2.2.2.1, nI_add]
theorem fc_n (hb : BdS S R 170 174 co) (hV : BV P C f F T A D) {I : mkI} (hI : I 174 = f) : F_X0_calls (some 170) (mk S I L R n) = some (nI C, mk S I L R n) := by
  rw [c_calls hb, hI, hV.2.1]
/-- which calls the course has free lines for -/
def ablP (X : Nat → Int32) (F T A : Nat → Nat) (M : Nat) (c : Nat) : Bool := decide (M ≤ A c) && (decide (¬ nI (A c) < X (F c)) && decide (¬ nI (A c) < X (T c)))
theorem c_ableL (hs : St S R) (hP : PlOK P) (hb : BdS S R 170 174 co) (hV : BV P C f F T A D) (h0 : f 0 = nI M) (hM : M ≤ 300000) {I : mkI} (hI : I 174 = f) {l : List Nat} (hn : I 136 1 = nI l.length) (ho : ∀ i, i < l.length → I 137 i = nI (l.getD i 0)) (hl : ∀ d ∈ l, d < C) (hl10 : l.length ≤ 10) : ∀ (t pre : List Nat) (g v : Nat), l = pre ++ t → t.length < g → F_X4_ableCalls_12 g (some 135) (some 170) (nI v) (nI pre.length) (mk S I L R n) = some (nI (orB (ablP (I 138) F T A M) t v), mk S I L R n) := by
  have w2 := hP.2.1
  intro t
  induction t with
  | nil =>
    intro pre g v he hg
    obtain ⟨g, rfl⟩ : ∃ y, g = y + 1 := ⟨g - 1, by have : ([] : List Nat).length = 0 := rfl; omega⟩
    rw [List.append_nil] at he
    simp only [F_X4_ableCalls_12, F_X1_many]
    rw [gr_135_0 hs, Option.bind_some, cq_v (cos_f hs), cq_1 (cos_f hs), Option.bind_some, b2_some, hn, he, if_pos (nI_le (Nat.le_refl _) (by rw [← he]; omega))]
    rfl
  | cons c t ih =>
    intro pre g v he hg
    rw [List.length_cons] at hg
    obtain ⟨g, rfl⟩ : ∃ y, g = y + 1 := ⟨g - 1, by omega⟩
    have hlen : l.length = pre.length + (t.length + 1) := by rw [he, List.length_append, List.length_cons]
    have hgc : l.getD pre.length 0 = c := by rw [he]; exact getD_pre pre t c
    have hcC : c < C := hl c (by rw [he]; exact List.mem_append_right _ List.mem_cons_self)
    have hC := hV.1
    obtain ⟨⟨-, hF⟩, ⟨-, hT⟩, -, ⟨-, hA⟩, -⟩ := hV.2.2 c hcC
    have hpl : (pre ++ [c]).length = pre.length + 1 := by rw [List.length_append, List.length_singleton]
    have key := fun v => ih (pre ++ [c]) g v (by rw [he, List.append_assoc]; rfl) (by omega)
    rw [hpl] at key
    have hat : F_X1_callAt (some 136) (nI pre.length) (mk S I L R n) = some (nI c, mk S I L R n) := by
      unfold F_X1_callAt F_X1_callAt_27 F_X1_callAt_28
      rw [if_neg (nI_pos (by omega)), cq_1 (cos_f hs), Option.bind_some, hn, if_neg (nI_ge (by omega) (by omega)), if_neg (ge_li 10 (by omega) (by decide)), cq_0 (cos_f hs), Option.bind_some, cq_ao (cos_f hs) (by omega), Option.bind_some, ho _ (by omega), hgc]
    simp only [F_X4_ableCalls_12, F_X1_many, F_X4_ableCalls_56, F_X4_ableCalls_96]
    rw [gr_135_0 hs, Option.bind_some, cq_v (cos_f hs), cq_1 (cos_f hs), Option.bind_some, b2_some, hn, if_neg (nI_ge (by omega) (by omega)), gr_135_0 hs, Option.bind_some, cq_v (cos_f hs), hat, b2_some, bd_v hb, fc_2 hb hV hI hcC, b2_some, bd_v hb, c_minute hb, b2_some, hI, h0, gr_135_0 hs, Option.bind_some, bd_v hb, fc_0 hb hV hI hcC, b2_some, bd_v hb, fc_1 hb hV hI hcC, b2_some, cq_v (cos_f hs), c_areFree (cos_f hs) (by omega) (by omega), b2_some, sh1 (show c < 31 by omega), nI_or, nI_1, key, key]
    rw [orB]
    unfold ablP
    by_cases e1 : M ≤ A c
    · rw [if_neg (nI_nlt e1 (by omega)), decide_eq_true e1, Bool.true_and, if_neg (show ¬ (1 : Int32) = 0 by decide)]
      by_cases e2 : (decide (¬ nI (A c) < I 138 (F c)) && decide (¬ nI (A c) < I 138 (T c))) = true
      · rw [b2i_e e2, if_neg (show ¬ (1 : Int32) = 0 by decide), if_pos e2]
      · rw [b2i_ne e2, if_pos (show (0 : Int32) = 0 from rfl), if_neg e2]
    · rw [if_pos (nI_lt (by omega) (by omega)), if_pos trivial, decide_eq_false e1, Bool.false_and, if_neg Bool.false_ne_true]
/-- the able calls, and cords as they are free, in the fitting's course -/
def AbS (P : PL) (C : Nat) (f : Nat → Int32) (F T A D : Nat → Nat) (M v : Nat) : Prop := v < 2 ^ C ∧ ∀ c, c < C → v.testBit c = qE (bQ P true C f F T A D M) c
theorem c_able (hs : St S R) (hP : PlOK P) (hw : LW S) (hb : BdS S R 170 174 co) (hpl : R 170 2 = some p) {I : mkI} (hp : CPlan P S R I p) (hI : I 174 = f) (hB : BI P C f F T A D M) (hM : M ≤ 300000) : ∃ I' v, F_X4_ableCalls (some 135) (some 170) (mk S I L R n) = some (nI v, mk S I' L R n) ∧ AbS P C f F T A D M v ∧ CoR (pW P) (pC P) C f M (I' 138) (I' 139) ∧ ∀ x, ¬ (136 ≤ x ∧ x ≤ 141) → I' x = I x := by
  obtain ⟨y1, y2, y3, y4, y5, y6, y7⟩ := id hB
  have w2 := hP.2.1
  have hC := y1.1
  obtain ⟨I1, q1, ⟨q2, q3⟩, q4, -, -, q7⟩ := c_start2 (L := L) (n := n) hP hw hb (cos_f hs) npa_f hpl (I := I) hp (C := C) (M := M) (F := F) (T := T) (A := A) (D := D) (by rw [hI]; exact y1) (by rw [hI]; exact y3) (by rw [hI]; exact fun d hd z => (y4 d hd z).1) (by rw [hI]; exact y6)
  rw [hI] at q2 q3 q4
  obtain ⟨o1, o2, o3, o4⟩ := ordF_ok (q := fun d => decide (f (15 + 7 * d) = 0)) (A := A) (C := C)
  have kI : ∀ x, ¬ (136 ≤ x ∧ x ≤ 141) → I1 x = I x := fun x hx => q7 x (by omega) (by omega) (by omega) (by omega) (by omega) (by omega)
  have key := c_ableL (L := L) (n := n) hs hP hb y1 y2 hM (I := I1) (by rw [kI _ (by decide)]; exact hI) q2 q3 (fun d hd => ((o4 d).mp hd).1) (by omega) (ordF (fun d => decide (f (15 + 7 * d) = 0)) A C) [] mm_N 0 rfl (by show _ < 1000000; omega)
  refine ⟨I1, orB (ablP (I1 138) F T A M) (ordF (fun d => decide (f (15 + 7 * d) = 0)) A C) 0, ?_, ⟨orB_lt _ _ (fun d hd => ((o4 d).mp hd).1) (Nat.two_pow_pos _), fun c hc => ?_⟩, q4, kI⟩
  · unfold F_X4_ableCalls
    rw [gr_135_0 hs, Option.bind_some, cq_v (cos_f hs), q1, Option.bind_some]
    exact key
  · obtain ⟨⟨-, hF⟩, ⟨-, hT⟩, -, ⟨-, hA⟩, -⟩ := y1.2.2 c hc
    rw [orB_bit, Nat.zero_testBit, Bool.false_or]
    show (decide (c ∈ ordF (fun d => decide (f (15 + 7 * d) = 0)) A C) && ablP (I1 138) F T A M c) = (decide (f (15 + 7 * c) = 0) && (decide (M ≤ A c) && (frB C f (F c) (A c) && frB C f (T c) (A c))))
    have e0 : decide (c ∈ ordF (fun d => decide (f (15 + 7 * d) = 0)) A C) = decide (f (15 + 7 * c) = 0) := by
      rw [decide_eq_decide, o4]; simp [hc]
    rw [e0]
    congr 1
    unfold ablP
    by_cases e1 : M ≤ A c
    · rw [decide_eq_true e1, Bool.true_and, Bool.true_and]
      have fr : ∀ l, l < pW P → decide (¬ nI (A c) < I1 138 l) = frB C f l (A c) := fun l hl => by
        obtain ⟨x, x1, x2, x3⟩ := q4.1 l hl
        unfold frB
        rw [decide_eq_decide, x1, ← x3 (A c) e1 (by omega), nI_ltI (by omega) (by omega)]
        omega
      rw [fr _ hF, fr _ hT]
    · rw [decide_eq_false e1, Bool.false_and, Bool.false_and]
theorem c_takL (hs : St S R) (hP : PlOK P) (hb : BdS S R 170 174 co) (hpl : R 170 2 = some p) (hV : BV P C f F T A D) {I : mkI} (hp : CPlan P S R I p) (hI : I 174 = f) {k : Nat} (hk : k < pC P) : ∀ (r g c v : Nat), c + r = C → r < g → F_X4_takenBy_5 g (some 135) (some 170) (nI k) (nI v) (nI c) (mk S I L R n) = some (nI (orB (fun c => rbo P k (F c) (T c) && decide (¬ nI (A c) < I 139 k)) (List.range' c r) v), mk S I L R n) := by
  have w2 := hP.2.1
  have w3 := hP.2.2.1
  have hC := hV.1
  intro r
  induction r with
  | zero =>
    intro g c v hc hg
    obtain ⟨g, rfl⟩ : ∃ y, g = y + 1 := ⟨g - 1, by omega⟩
    simp only [F_X4_takenBy_5]
    rw [bd_v hb, fc_n hb hV hI, b2_some, if_pos (nI_le (by omega) (by omega))]
    rfl
  | succ r ih =>
    intro g c v hc hg
    obtain ⟨g, rfl⟩ : ∃ y, g = y + 1 := ⟨g - 1, by omega⟩
    have hcC : c < C := by omega
    obtain ⟨⟨-, hF⟩, ⟨-, hT⟩, -, ⟨-, hA⟩, -⟩ := hV.2.2 c hcC
    have ih' := fun v => ih g (c + 1) v (by omega) (by omega)
    rw [List.range'_succ, orB]
    simp only [F_X4_takenBy_5, F_X4_takenBy_68]
    rw [bd_v hb, fc_n hb hV hI, b2_some, if_neg (nI_ge (by omega) (by omega)), bd_p hb hpl, Option.bind_some, bd_v hb, fc_0 hb hV hI hcC, b2_some, bd_v hb, fc_1 hb hV hI hcC, b2_some, pl_v hp.1, c_reaches hP hp hk (by omega) (by omega), b2_some, gr_135_0 hs, Option.bind_some, bd_v hb, fc_2 hb hV hI hcC, b2_some, cq_v (cos_f hs), c_isCordFree (cos_f hs) (by omega), b2_some, sh1 (show c < 31 by omega), nI_or, nI_1, ih', ih']
    rw [show (hasB (pRe P k) (nI (F c)) && hasB (pRe P k) (nI (T c))) = rbo P k (F c) (T c) from rfl]
    cases rbo P k (F c) (T c)
    · rfl
    · rw [if_neg (show ¬ b2i true = 0 by decide), Bool.true_and]
      cases decide (¬ nI (A c) < I 139 k) <;> rfl
/-- who else meets a call; who clashes with it -/
def meP (Q : BQ) (c d : Nat) : Bool := decide (d ≠ c) && qO Q c d
def clP (Q : BQ) (c d : Nat) : Bool := decide (d ≠ c) && (qO Q c d && qS Q c d)
theorem c_othL (hs : St S R) (hP : PlOK P) (hb : BdS S R 170 174 co) (hV : BV P C f F T A D) {I : mkI} (hI : I 174 = f) {told : Bool} {c : Nat} (hcC : c < C) : ∀ (r g d v u : Nat), d + r = C → r < g → F_X4_findOthers_36 g (some 135) (some 170) (nI c) (nI C) (nI (2 ^ F c ||| 2 ^ T c)) (nI v) (nI u) (nI d) (mk S I L R n) = some (mk S (up2 (up2 I 144 c (nI (orB (meP (bQ P told C f F T A D M) c) (List.range' d r) v))) 145 c (nI (orB (clP (bQ P told C f F T A D M) c) (List.range' d r) u))) L R n) := by
  have w2 := hP.2.1
  have hC := hV.1
  obtain ⟨⟨-, hFc⟩, ⟨-, hTc⟩, -, ⟨-, hAc⟩, -, -, hDc⟩ := hV.2.2 c hcC
  intro r
  induction r with
  | zero =>
    intro g d v u hd hg
    obtain ⟨g, rfl⟩ : ∃ y, g = y + 1 := ⟨g - 1, by omega⟩
    simp only [F_X4_findOthers_36, F_X4_findOthers_173]
    rw [if_pos (nI_le (by omega) (by omega)), if_neg (nI_pos (by omega)), if_neg (ge_li 10 (by omega) (by decide)), gr_135_3 hs, Option.bind_some, si_144 hs (by omega), Option.bind_some, gr_135_4 hs, Option.bind_some, si_145 hs (by omega), Option.bind_some]
    rfl
  | succ r ih =>
    intro g d v u hd hg
    obtain ⟨g, rfl⟩ : ∃ y, g = y + 1 := ⟨g - 1, by omega⟩
    have hdC : d < C := by omega
    obtain ⟨⟨-, hF⟩, ⟨-, hT⟩, -, ⟨-, hA⟩, -, -, hD⟩ := hV.2.2 d hdC
    have ih' := fun v u => ih g (d + 1) v u (by omega) (by omega)
    have hands : (nI (2 ^ F c ||| 2 ^ T c) &&& (nI (2 ^ F d) ||| nI (2 ^ T d)) = 0) ↔ ¬ (F c = F d ∨ F c = T d ∨ T c = F d ∨ T c = T d) := by
      have p1 : 2 ^ F c < 2 ^ 8 := Nat.pow_lt_pow_right (by decide) (by omega)
      have p2 : 2 ^ T c < 2 ^ 8 := Nat.pow_lt_pow_right (by decide) (by omega)
      have h1 : (2 ^ F c ||| 2 ^ T c) &&& (2 ^ F d ||| 2 ^ T d) ≤ 2 ^ F c ||| 2 ^ T c := Nat.and_le_left
      have h2 : 2 ^ F c ||| 2 ^ T c < 2 ^ 8 := Nat.or_lt_two_pow p1 p2
      rw [nI_or, nI_and, ← two_and]
      exact nI_eq (b := 0) (by omega) (by omega)
    rw [List.range'_succ, orB, orB]
    have h77 : ∀ s0 : Int32, F_X4_findOthers_77 (F_X4_findOthers_36 g) (some 135) (some 170) (nI c) (nI C) (nI (2 ^ F c ||| 2 ^ T c)) (nI v) (nI u) (nI d) s0 (mk S I L R n) = if d = c then F_X4_findOthers_36 g (some 135) (some 170) (nI c) (nI C) (nI (2 ^ F c ||| 2 ^ T c)) (nI v) (nI u) (nI (d + 1)) (mk S I L R n) else if s0 = 0 then F_X4_findOthers_36 g (some 135) (some 170) (nI c) (nI C) (nI (2 ^ F c ||| 2 ^ T c)) (nI (v ||| 2 ^ d)) (if F c = F d ∨ F c = T d ∨ T c = F d ∨ T c = T d then nI (u ||| 2 ^ d) else nI u) (nI (d + 1)) (mk S I L R n) else F_X4_findOthers_36 g (some 135) (some 170) (nI c) (nI C) (nI (2 ^ F c ||| 2 ^ T c)) (nI v) (nI u) (nI (d + 1)) (mk S I L R n) := fun s0 => by
      unfold F_X4_findOthers_77 F_X4_findOthers_138 F_X4_findOthers_141
      rw [bd_v hb, fc_0 hb hV hI hdC, b2_some, bd_v hb, fc_1 hb hV hI hdC, b2_some, sh1 (show F d < 31 by omega), sh1 (show T d < 31 by omega), sh1 (show d < 31 by omega), nI_or v, nI_or u, nI_1, show nI u ||| (0 : Int32) = nI u by rw [show (0 : Int32) = nI 0 from rfl, nI_or, Nat.or_zero]]
      have e1 : (nI d = nI c) = (d = c) := propext (nI_eq (by omega) (by omega))
      simp only [hands, e1]
      by_cases z1 : d = c
      · rw [if_pos z1, if_pos z1]
      · rw [if_neg z1, if_neg z1]
        by_cases z2 : s0 = 0
        · rw [if_pos z2, if_pos z2]
          by_cases z3 : F c = F d ∨ F c = T d ∨ T c = F d ∨ T c = T d
          · rw [if_neg (fun q => q z3), if_pos z3]
          · rw [if_pos z3, if_neg z3]
        · rw [if_neg z2, if_neg z2]
    simp only [F_X4_findOthers_36, F_X4_findOthers_72]
    rw [if_neg (nI_ge (by omega) (by omega)), bd_v hb, fc_e hb hV hI hcC, b2_some, bd_v hb, fc_2 hb hV hI hdC, b2_some, bd_v hb, fc_e hb hV hI hdC, b2_some, bd_v hb, fc_2 hb hV hI hcC, b2_some, h77, h77]
    have em : meP (bQ P told C f F T A D M) c d = (decide (d ≠ c) && decide (A c < A d + D d ∧ A d < A c + D c)) := rfl
    have ec : clP (bQ P told C f F T A D M) c d = (decide (d ≠ c) && (decide (A c < A d + D d ∧ A d < A c + D c) && decide (F c = F d ∨ F c = T d ∨ T c = F d ∨ T c = T d))) := rfl
    rw [em, ec]
    by_cases z1 : d = c
    · rw [if_pos z1, if_pos z1, ite_self, ite_self, decide_eq_false (fun q => q z1), Bool.false_and, Bool.false_and, if_neg Bool.false_ne_true, if_neg Bool.false_ne_true, ih']
    · rw [if_neg z1, if_neg z1, decide_eq_true z1, Bool.true_and, Bool.true_and, if_neg (show ¬ (1 : Int32) = 0 by decide), if_pos (show (0 : Int32) = 0 from rfl)]
      by_cases z2 : A c + D c ≤ A d
      · rw [if_pos (nI_le z2 (by omega)), decide_eq_false (by omega), Bool.false_and, if_neg Bool.false_ne_true, if_neg Bool.false_ne_true, ih']
      · rw [if_neg (nI_ge (by omega) (by omega))]
        by_cases z3 : A c < A d + D d
        · rw [if_pos (nI_lt z3 (by omega)), decide_eq_true ⟨z3, by omega⟩, Bool.true_and, if_pos rfl]
          by_cases z4 : F c = F d ∨ F c = T d ∨ T c = F d ∨ T c = T d
          · rw [if_pos z4, decide_eq_true z4, if_pos rfl, ih']
          · rw [if_neg z4, decide_eq_false z4, if_neg Bool.false_ne_true, ih']
        · rw [if_neg (nI_nlt (by omega) (by omega)), decide_eq_false (by omega), Bool.false_and, if_neg Bool.false_ne_true, if_neg Bool.false_ne_true, ih']
theorem c_oth (hs : St S R) (hP : PlOK P) (hb : BdS S R 170 174 co) (hV : BV P C f F T A D) {I : mkI} (hI : I 174 = f) (told : Bool) {c : Nat} (hcC : c < C) : F_X4_findOthers (some 135) (some 170) (nI c) (nI C) (mk S I L R n) = some (mk S (up2 (up2 I 144 c (nI (orB (meP (bQ P told C f F T A D M) c) (List.range' 0 C) 0))) 145 c (nI (orB (clP (bQ P told C f F T A D M) c) (List.range' 0 C) 0))) L R n) := by
  have w2 := hP.2.1
  obtain ⟨⟨-, hFc⟩, ⟨-, hTc⟩, -⟩ := hV.2.2 c hcC
  unfold F_X4_findOthers
  rw [bd_v hb, fc_0 hb hV hI hcC, b2_some, bd_v hb, fc_1 hb hV hI hcC, b2_some, sh1 (show F c < 31 by omega), sh1 (show T c < 31 by omega), nI_or]
  exact c_othL hs hP hb hV hI hcC C mm_N 0 0 0 (by omega) (by have := hV.1; show C < 1000000; omega)
end CBe
