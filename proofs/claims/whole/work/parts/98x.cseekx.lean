/-! crossings: the class's search -/
def kN (I I' : mkI) : Prop := ∀ x, x ≠ 146 → x ≠ 149 → x ≠ 150 → x ≠ 154 → x ≠ 155 → x ≠ 156 → I' x = I x
theorem kN.rf {I : mkI} : kN I I := fun _ _ _ _ _ _ _ => rfl
theorem kN.tr {I I' I'' : mkI} (h : kN I I') (h2 : kN I' I'') : kN I I'' := fun x a b c d e g => (h2 x a b c d e g).trans (h x a b c d e g)
def XCs (P : PL) (C : Nat) (f : Nat → Int32) (F T A : Nat → Nat) (M : Nat) (S : mkS) (R : mkR) (p t ma : Nat) (l : List Nat) (I : mkI) : Prop := CPlan P S R I p ∧ I 174 = f ∧ I 147 1 = nI l.length ∧ (∀ i, i < l.length → I 148 i = nI (l.getD i 0)) ∧ CoR (pW P) (pC P) C f M (I 151) (I 152) ∧ (∀ c, c < C → I 153 c = cmX P F T A frc0 c) ∧ I (189 + 2 * t) 2 = nI ma
theorem XCs.k {P : PL} {C : Nat} {f : Nat → Int32} {F T A : Nat → Nat} {M : Nat} {S : mkS} {R : mkR} {p t ma : Nat} {l : List Nat} {I I' : mkI} (ht : t < 4) (h : XCs P C f F T A M S R p t ma l I) (k : kN I I') : XCs P C f F T A M S R p t ma l I' := by
  obtain ⟨h1, h2, h3, h4, h5, h6, h7⟩ := h
  have e : ∀ x, 200 ≤ x ∨ x < 146 ∨ x = 147 ∨ x = 148 ∨ x = 151 ∨ x = 152 ∨ x = 153 ∨ (157 ≤ x) → I' x = I x := fun x hx => k x (by omega) (by omega) (by omega) (by omega) (by omega) (by omega)
  exact ⟨h1.kk (fun x hx _ => e x (by unfold pa at hx; omega)) (fun _ _ => rfl), by rw [e _ (by omega)]; exact h2, by rw [e _ (by omega)]; exact h3, by rw [e _ (by omega)]; exact h4, by rw [e _ (by omega), e 152 (by omega)]; exact h5, by rw [e _ (by omega)]; exact h6, by rw [e _ (by omega)]; exact h7⟩
def XAc (m : Nat) (a : XA) (I : mkI) : Prop := I 146 5 = nI a.1 ∧ (a.1 ≠ 0 → ∀ j, j < m → I 156 j = nI (a.2 j))
theorem seek98_eq {n : Nat} {l0 l1 l2 : Option Nat} {l3 l4 l5 l6 : Int32} {h : MH} : F_X2_seek_98 (n + 1) l0 l1 l2 l3 l4 l5 l6 h = if l5 ≤ l6 then F_X2_seek_182 h else (if l3 ≤ 0 then F_X2_seek_182 h else F_X2_seek_119 (F_X2_seek_98 n) mm_N l0 l1 l2 l3 l4 l5 l6 l6 (l4 - (1 : Int32)) h) := rfl
theorem seek119_lo {n : Nat} {k98 : Option Nat → Option Nat → Option Nat → Int32 → Int32 → Int32 → Int32 → MH → Option MH} {l0 l1 l2 : Option Nat} {l3 l4 l5 l6 l7 : Int32} {h : MH} : F_X2_seek_119 k98 (n + 1) l0 l1 l2 l3 l4 l5 l6 l7 (-1) h = mm_b2 (cV h l0 2 (F_X2_leadPicks l0 l1 l2 l4 h)) fun v152 h152 => if v152 = 0 then (F_X2_seek_176 k98 l0 l1 l2 l3 l4 l5 l6 h152) else (mm_b2 (cV h152 l0 2 (F_X2_bringsTogether l0 l1 v152 h152)) fun v166 h166 => if v166 = 0 then (F_X2_seek_176 k98 l0 l1 l2 l3 l4 l5 l6 h166) else ((cV h166 l0 2 (F_X2_keepWay l0 h166)).bind fun h173 => F_X2_seek_176 k98 l0 l1 l2 l3 l4 l5 l6 h173)) := rfl
section CX
variable {S : mkS} {L : mkL} {R : mkR} {n : Nat × Nat} {P : PL} {C M p co t ma m : Nat} {f : Nat → Int32} {F T A D : Nat → Nat} {nu : Nat → Int64}
theorem c_keepWay (hs : St S R) (hm3 : m ≤ 3) {q : Nat → Nat} {a : XA} (ha1 : a.1 < 2000) {I : mkI} (hpi : ∀ j, j < m → I 155 j = nI (q j)) (ha : XAc m a I) : ∃ I', F_X2_keepWay (some 146) (mk S I L R n) = some (mk S I' L R n) ∧ XAc m (a.1 + 1, if a.1 = 0 then cutX m q else a.2) I' ∧ kN I I' := by
  unfold F_X2_keepWay F_X2_keepWay_21
  rw [gi_146_5 hs, Option.bind_some, ha.1]
  by_cases e : a.1 = 0
  · have c1 : cpI (mk S I L R n) (some 155) (0 : Int32) (some 156) (0 : Int32) (3 : Int32) = some (mk S (up1 I 156 (va_cpy (I 155) (I 156) 0 0 3)) L R n) := mk_cpI (sp := 0) (dp := 0) (nn := 3) (S_155 hs) (S_156 hs) (by decide) (by decide) (by decide) (by decide) (by decide)
    obtain ⟨I1, hI1⟩ : ∃ I1, I1 = up1 I 156 (va_cpy (I 155) (I 156) 0 0 3) := ⟨_, rfl⟩
    rw [← hI1] at c1
    have e5 : I1 146 5 = nI a.1 := by rw [hI1, up1_ne _ _ (by decide)]; exact ha.1
    refine ⟨up2 I1 146 5 (nI (a.1 + 1)), ?_, ⟨up2_self _ _ _ _, fun _ j hj => ?_⟩, fun x z1 _ _ _ _ z6 => by rw [up2_ne _ _ _ z1, hI1, up1_ne _ _ z6]⟩
    · rw [if_pos (by rw [e]; rfl), gr_146_3 hs, Option.bind_some, gr_146_4 hs, Option.bind_some, c1, Option.bind_some, gi_146_5 hs, Option.bind_some, e5, nI_1, pi_146_5 hs, Option.bind_some]
    · rw [up2_ne _ _ _ (by decide), hI1, up1_self]
      show (if 0 ≤ j ∧ j < 0 + 3 then I 155 (0 + (j - 0)) else _) = nI ((if a.1 = 0 then cutX m q else a.2) j)
      rw [if_pos ⟨by omega, by omega⟩, Nat.zero_add, Nat.sub_zero, hpi j hj, if_pos e]
      unfold cutX
      rw [if_pos hj]
  · refine ⟨up2 I 146 5 (nI (a.1 + 1)), ?_, ⟨up2_self _ _ _ _, fun _ j hj => ?_⟩, fun x z1 _ _ _ _ _ => up2_ne _ _ _ z1⟩
    · rw [if_neg (show ¬ nI a.1 = 0 from fun z => e ((nI_eq (b := 0) (by omega) (by omega)).mp z)), Option.bind_some, nI_1, pi_146_5 hs, Option.bind_some]
    · rw [up2_ne _ _ _ (by decide)]
      show _ = nI ((if a.1 = 0 then cutX m q else a.2) j)
      rw [if_neg e]; exact ha.2 e j hj
theorem c_num (hs : St S R) (hP : PlOK P) (hb : BdS S R 170 174 co) (hpl : R 170 2 = some p) (hB : BI P C f F T A D M) (ht : t < 4) (hma : ma = 2 * m) (hm1 : 1 ≤ m) (hm3 : m ≤ 3) (hl : ∀ j, j < ma → L (190 + 2 * t) j = nu j) (hnu : ∀ j, j < ma → lnv nu j < pW P ∧ nu j = (nI (lnv nu j)).toInt64) (hC0 : 0 < C) {l : List Nat} (hle : l = evU f A C M 1200) (hl1 : l.length ≤ 10) (hl2 : l.Nodup) (hl3 : l.Pairwise (fun a b => A a ≤ A b)) {x E g : Nat} (hx : x < E) (hE : E ≤ 1000) {a : XA} (ha1 : a.1 < 2000) {I : mkI} (h : XCs P C f F T A M S R p t ma l I) (ha : XAc m a I) : ∃ I', F_X2_seek_98 (g + 1) (some 146) (some 170) (some (189 + 2 * t)) (nI C) (nI m) (nI E) (nI x) (mk S I L R n) = F_X2_seek_98 g (some 146) (some 170) (some (189 + 2 * t)) (nI C) (nI m) (nI E) (nI (x + 1)) (mk S I' L R n) ∧ XAc m (stX (qX f F (lnv nu)) m (gdX (P, C, f, A, M) (qX f F (lnv nu)) m) (dgX m C x) a) I' ∧ kN I I' := by
  have hC := hB.1.1
  have w2 := hP.2.1
  obtain ⟨q, hq⟩ : ∃ q, q = dgX m C x := ⟨_, rfl⟩
  have hqC : ∀ i, i < m → q i < C := fun i _ => by rw [hq]; exact Nat.mod_lt _ hC0
  obtain ⟨I1, g1, y, x1, x2, -, x4⟩ := c_dig (S := S) (L := L) (R := R) (n := n) hs (k98 := F_X2_seek_98 g) (b := some 170) (tr := some (189 + 2 * t)) (E := nI E) (X := nI x) (x := x) (by omega) hC0 hC hm3 m mm_N I (Nat.le_refl _) (by show m < 1000000; omega)
  rw [Nat.sub_self, Nat.pow_zero, Nat.div_one] at x1
  rw [← hq] at x2 ⊢
  have n1 : kN I I1 := fun z _ _ _ _ z5 _ => x4 z z5
  rw [seek98_eq, if_neg (nI_ge hx (by omega)), if_neg (show ¬ nI C ≤ 0 from fun z => absurd z (show ¬ nI C ≤ nI 0 from nI_ge hC0 (by omega))), x1, seek119_lo]
  -- leading
  have c1 : cpI (mk S I1 L R n) (some 153) (0 : Int32) (some 154) (0 : Int32) (10 : Int32) = some (mk S (up1 I1 154 (va_cpy (I1 153) (I1 154) 0 0 10)) L R n) := mk_cpI (sp := 0) (dp := 0) (nn := 10) (S_153 hs) (S_154 hs) (by decide) (by decide) (by decide) (by decide) (by decide)
  obtain ⟨I2, hI2⟩ : ∃ I2, I2 = up1 I1 154 (va_cpy (I1 153) (I1 154) 0 0 10) := ⟨_, rfl⟩
  rw [← hI2] at c1
  have n2 : kN I1 I2 := fun z _ _ _ z4 _ _ => by rw [hI2, up1_ne _ _ z4]
  have h2 := (h.k ht n1).k ht n2
  have hcm2 : ∀ c, c < C → I2 154 c = cmX P F T A (frX (qX f F (lnv nu)) 0 q) c := fun c hc => by
    rw [hI2, up1_self]
    show (if 0 ≤ c ∧ c < 0 + 10 then I1 153 (0 + (c - 0)) else _) = _
    rw [if_pos ⟨by omega, by omega⟩, Nat.zero_add, Nat.sub_zero]
    exact (h.k ht n1).2.2.2.2.2.1 c hc
  obtain ⟨I3, pk, y1, y2, y3, y4⟩ := c_leadL (L := L) (n := n) hs hP hb hB.1 ht hma hm3 hl hnu hqC m mm_N 0 0 I2 (by omega) (by show m < 1000000; omega) (fun j hj => by rw [hI2, up1_ne _ _ (by decide)]; exact x2 j hj) h2.2.1 h2.2.2.2.2.2.2 rfl (by decide) (fun c _ => by rw [Nat.zero_testBit]; exact (decide_eq_false (fun z => z rfl)).symm) hcm2
  have n3 : kN I2 I3 := fun z _ _ _ z4 _ _ => y4 z z4
  have hlead : F_X2_leadPicks (some 146) (some 170) (some (189 + 2 * t)) (nI m) (mk S I1 L R n) = some (nI pk, mk S I3 L R n) := by
    unfold F_X2_leadPicks
    rw [gr_146_1 hs, Option.bind_some, gr_146_2 hs, Option.bind_some, c1, Option.bind_some]
    exact y1
  have h3 := h2.k ht n3
  have n13 : kN I I3 := (n1.tr n2).tr n3
  have a3 : XAc m a I3 := ⟨by rw [y4 _ (by decide), hI2, up1_ne _ _ (by decide), x4 _ (by decide)]; exact ha.1, fun z j hj => by rw [y4 _ (by decide), hI2, up1_ne _ _ (by decide), x4 _ (by decide)]; exact ha.2 z j hj⟩
  rw [cv_146 hs, hlead, b2_some]
  unfold stX
  cases hv : vlX (qX f F (lnv nu)) m q with
  | false =>
    rw [y3 hv, if_pos (show nI 0 = 0 from rfl), if_neg Bool.false_ne_true]
    unfold F_X2_seek_176
    rw [nI_1]
    exact ⟨I3, rfl, a3, n13⟩
  | true =>
    obtain ⟨p1, p2, p3⟩ := y2 hv
    have hQb : ∀ j, j < m → (qX f F (lnv nu)).2 j (q j) < pW P := fun j hj => by
      show (if F (q j) = lnv nu (2 * j) then lnv nu (2 * j + 1) else lnv nu (2 * j)) < pW P
      have n0 := (hnu (2 * j) (by omega)).1
      have n1 := (hnu (2 * j + 1) (by omega)).1
      split <;> omega
    have hfne := frX_ne (Q := qX f F (lnv nu)) (m := m) (p := q) m (fun j hj => by have := hQb j hj; omega)
    have hfr : frcOK P (frX (qX f F (lnv nu)) m q) := frX_ok m q hQb
    have hbt : ∀ d, pk.testBit d = true ↔ ∃ j, j < m ∧ q j = d := fun d => by
      by_cases hd : d < 10
      · rw [p2 d hd, decide_eq_true_eq, hfne]
      · rw [bit_lo p1 d (by omega)]
        exact ⟨fun z => (by cases z), fun ⟨j, j1, j2⟩ => absurd (hqC j j1) (by omega)⟩
    have pk0 : pk ≠ 0 := fun z => by
      have := (hbt (q 0)).mpr ⟨0, by omega, rfl⟩
      rw [z, Nat.zero_testBit] at this; cases this
    rw [if_neg (show ¬ nI pk = 0 from fun z => pk0 ((nI_eq (b := 0) (by omega) (by omega)).mp z)), if_pos rfl]
    obtain ⟨I4, r1, r2, r3, r4⟩ := c_rewind (L := L) (n := n) hs I3
    have n4 : kN I3 I4 := fun z _ z2 z3 _ _ _ => r4 z z2 z3
    have h4 := h3.k ht n4
    have hco : CoR (pW P) (pC P) C f M (I4 149) (I4 150) := h3.2.2.2.2.1.cg (fun l hl => r2 l (by omega)) (fun k hk => r3 k (by have := hP.2.2.1; omega))
    obtain ⟨I5, b1, b2⟩ := c_brL (N := l.length) (L := L) (n := n) hs hP hb hpl hB.1 hfr (pk := pk) hl1 l mm_N 0 I4 f M (by omega) (by show l.length < 1000000; omega) h4.2.2.1 (fun j hj => by rw [Nat.zero_add]; exact h4.2.2.2.1 j hj) h4.1 h4.2.1 (fun c hc => by rw [r4 _ (by decide) (by decide)]; exact p3 c hc) hB.1 hco (fun d hd => by
      rw [hle] at hd
      obtain ⟨d1, d2, d3, -⟩ := evU_mem.mp hd
      exact ⟨d1, d2, d3⟩) hl2 hl3
    have n5 : kN I4 I5 := fun z _ z2 z3 _ _ _ => b2 z z2 z3
    have hbr : F_X2_bringsTogether (some 146) (some 170) (nI pk) (mk S I3 L R n) = some (b2i (brB P (frX (qX f F (lnv nu)) m q) C pk l f), mk S I5 L R n) := by
      unfold F_X2_bringsTogether
      rw [gr_146_0 hs, Option.bind_some, cv_147 hs, r1, Option.bind_some]
      exact b1
    have egd : brB P (frX (qX f F (lnv nu)) m q) C pk l f = gdX (P, C, f, A, M) (qX f F (lnv nu)) m q := by
      unfold gdX
      rw [Bool.eq_iff_iff, brB_iff, List.all_eq_true, hle]
      constructor
      · intro z i hi
        exact decide_eq_true (z (q i) ((hbt (q i)).mpr ⟨i, List.mem_range.mp hi, rfl⟩))
      · intro z d hd
        obtain ⟨j, j1, j2⟩ := (hbt d).mp hd
        rw [← j2]
        exact of_decide_eq_true (z j (List.mem_range.mpr j1))
    rw [cv_146 hs, hbr, b2_some, egd]
    have a5 : XAc m a I5 := ⟨by rw [b2 _ (by decide) (by decide), r4 _ (by decide) (by decide)]; exact a3.1, fun z j hj => by rw [b2 _ (by decide) (by decide), r4 _ (by decide) (by decide)]; exact a3.2 z j hj⟩
    have n15 := (n13.tr n4).tr n5
    unfold lfX F_X2_seek_176
    cases gdX (P, C, f, A, M) (qX f F (lnv nu)) m q with
    | false =>
      rw [if_pos (show b2i false = 0 from rfl), if_neg Bool.false_ne_true, nI_1]
      exact ⟨I5, rfl, a5, n15⟩
    | true =>
      rw [if_neg (show ¬ b2i true = 0 by decide), if_pos rfl]
      obtain ⟨I6, k1, k2, k3⟩ := c_keepWay (L := L) (n := n) hs hm3 (q := q) ha1 (I := I5) (fun j hj => by rw [b2 _ (by decide) (by decide), r4 _ (by decide) (by decide), y4 _ (by decide), hI2, up1_ne _ _ (by decide)]; exact x2 j hj) a5
      rw [cv_146 hs, k1, Option.bind_some, nI_1]
      exact ⟨I6, rfl, k2, n15.tr k3⟩
end CX
