/-! crossed, crossings -/
section KX
variable {S : mkS} {L : mkL} {R : mkR} {n : Nat × Nat} {P : PL} {C M p co t ma m : Nat} {f : Nat → Int32} {F T A D : Nat → Nat} {nu : Nat → Int64}
theorem stX_le {Q : XQ} {good : (Nat → Nat) → Bool} {q : Nat → Nat} {a : XA} : (stX Q m good q a).1 ≤ a.1 + 1 := by
  unfold stX lfX
  split
  · split
    · exact Nat.le_refl _
    · exact Nat.le_succ _
  · exact Nat.le_succ _
theorem c_nums (hs : St S R) (hP : PlOK P) (hb : BdS S R 170 174 co) (hpl : R 170 2 = some p) (hB : BI P C f F T A D M) (ht : t < 4) (hma : ma = 2 * m) (hm1 : 1 ≤ m) (hm3 : m ≤ 3) (hl : ∀ j, j < ma → L (190 + 2 * t) j = nu j) (hnu : ∀ j, j < ma → lnv nu j < pW P ∧ nu j = (nI (lnv nu j)).toInt64) {l : List Nat} (hle : l = evU f A C M 1200) (hl1 : l.length ≤ 10) (hl2 : l.Nodup) (hl3 : l.Pairwise (fun a b => A a ≤ A b)) {E : Nat} (hE : E = C ^ m) (hE2 : E ≤ 1000) : ∀ (z g x : Nat) (a : XA) (I : mkI), x + z = E → z < g → a.1 ≤ x → XCs P C f F T A M S R p t ma l I → XAc m a I → ∃ I', F_X2_seek_98 g (some 146) (some 170) (some (189 + 2 * t)) (nI C) (nI m) (nI E) (nI x) (mk S I L R n) = some (mk S I' L R n) ∧ XAc m ((List.range' x z).foldl (fun a x => stX (qX f F (lnv nu)) m (gdX (P, C, f, A, M) (qX f F (lnv nu)) m) (dgX m C x) a) a) I' ∧ kN I I' := by
  intro z
  induction z with
  | zero =>
    intro g x a I hx hg ha1 h ha
    obtain ⟨g, rfl⟩ : ∃ y, g = y + 1 := ⟨g - 1, by omega⟩
    refine ⟨I, ?_, ha, kN.rf⟩
    rw [seek98_eq, if_pos (nI_le (by omega) (by omega))]
    rfl
  | succ z ih =>
    intro g x a I hx hg ha1 h ha
    obtain ⟨g, rfl⟩ : ∃ y, g = y + 1 := ⟨g - 1, by omega⟩
    have hC0 : 0 < C := by
      refine Nat.pos_of_ne_zero (fun e => ?_)
      rw [e, Nat.zero_pow (by omega)] at hE
      omega
    obtain ⟨I1, q1, q2, q3⟩ := c_num (L := L) (n := n) hs hP hb hpl hB ht hma hm1 hm3 hl hnu hC0 hle hl1 hl2 hl3 (x := x) (E := E) (g := g) (by omega) hE2 (a := a) (by omega) h ha
    obtain ⟨I', r1, r2, r3⟩ := ih g (x + 1) _ I1 (by omega) (by omega) (Nat.le_trans stX_le (by omega)) (h.k ht q3) q2
    refine ⟨I', q1.trans r1, ?_, q3.tr r3⟩
    rw [List.range'_succ, List.foldl_cons]
    exact r2
theorem si_153' (hs : St S R) {I : mkI} {c : Nat} {v : Int32} (h : c < 10) : sI (mk S I L R n) (some 153) 0 (nI c) v = some (mk S (up2 I 153 c v) L R n) := mk_sJ0 (S_153 hs) h (by decide) (by decide)
theorem c_bylaw (hs : St S R) (hP : PlOK P) (hw : LW S) (hb : BdS S R 170 174 co) (hpl : R 170 2 = some p) (hV : BV P C f F T A D) {tr : Option Nat} {l4 l5 : Int32} : ∀ (r g c : Nat) (I : mkI), c + r = C → r < g → CPlan P S R I p → I 174 = f → (∀ d, d < c → I 153 d = cmX P F T A frc0 d) → ∃ I' g', F_X2_seek_50 g (some 146) (some 170) tr (nI C) l4 l5 (nI c) (mk S I L R n) = F_X2_seek_50 (g' + 1) (some 146) (some 170) tr (nI C) l4 l5 (nI C) (mk S I' L R n) ∧ (∀ d, d < C → I' 153 d = cmX P F T A frc0 d) ∧ ∀ x, x ≠ 153 → S (x - 2) ≠ (14, 0) → I' x = I x := by
  have hC := hV.1
  intro r
  induction r with
  | zero =>
    intro g c I hc hg hp hI hd
    obtain ⟨g, rfl⟩ : ∃ y, g = y + 1 := ⟨g - 1, by omega⟩
    have : c = C := by omega
    subst this
    exact ⟨I, g, rfl, hd, fun _ _ _ => rfl⟩
  | succ r ih =>
    intro g c I hc hg hp hI hd
    obtain ⟨g, rfl⟩ : ∃ y, g = y + 1 := ⟨g - 1, by omega⟩
    have hcC : c < C := by omega
    obtain ⟨⟨e1, hF⟩, ⟨e2, hT⟩, -, ⟨e3, hA⟩, -⟩ := hV.2.2 c hcC
    obtain ⟨I1, k1, x1⟩ := c_whereTo (L := L) (n := n) hP hb hpl hp hC (by rw [hI]; exact hV.2.1) hcC hF hT (show A c ≤ 1000000 by omega) (by rw [hI]; exact e1) (by rw [hI]; exact e2)
    have ncells : S (174 - 2) ≠ (14, 0) := hs.nst hw (by decide) (by decide)
    have nby : S (153 - 2) ≠ (14, 0) := hs.nst hw (by decide) (by decide)
    obtain ⟨I', g', q1, q2, q3⟩ := ih g (c + 1) (up2 I1 153 c (aComes P (nI (F c)) (nI (T c)) (nI (A c)) (nI c))) (by omega) (by omega) (hp.keep hw (fun x hx q => by rw [up2_ne _ _ _ (by unfold pa at hx; omega), k1 x q])) (by rw [up2_ne _ _ _ (by decide), k1 _ ncells]; exact hI) (fun d hd' => by
      rw [up2_row]
      by_cases e : d = c
      · rw [e, up1_self]; rfl
      · rw [up1_ne _ _ e, k1 _ nby]; exact hd d (by omega))
    refine ⟨I', g', ?_, q2, fun x z1 z2 => by rw [q3 x z1 z2, up2_ne _ _ _ z1, k1 x z2]⟩
    rw [← q1]
    simp only [F_X2_seek_50]
    rw [if_neg (nI_ge (by omega) (by omega)), gr_146_1 hs, Option.bind_some, bd_v hb, fc_2 hb hV hI hcC, b2_some, bd_v hb, x1, b2_some, si_153' hs (by omega), Option.bind_some, nI_1]
theorem c_pow {l0 l1 l2 : Option Nat} {h : MH} (hC : C ≤ 10) (hm3 : m ≤ 3) : ∀ (r g i : Nat), i + r = m → r < g → F_X2_seek_28 g l0 l1 l2 (nI C) (nI m) (nI (C ^ i)) (nI i) h = F_X2_seek_50 mm_N l0 l1 l2 (nI C) (nI m) (nI (C ^ m)) 0 h := by
  intro r
  induction r with
  | zero =>
    intro g i hi hg
    obtain ⟨g, rfl⟩ : ∃ y, g = y + 1 := ⟨g - 1, by omega⟩
    have : i = m := by omega
    subst this
    simp only [F_X2_seek_28]
    rw [if_pos (nI_le (by omega) (by omega))]
  | succ r ih =>
    intro g i hi hg
    obtain ⟨g, rfl⟩ : ∃ y, g = y + 1 := ⟨g - 1, by omega⟩
    rw [← ih g (i + 1) (by omega) (by omega), Nat.pow_succ, ← nI_mul9, ← nI_1]
    simp only [F_X2_seek_28]
    rw [if_neg (nI_ge (by omega) (by omega))]
theorem c_seekX (hs : St S R) (hP : PlOK P) (hw : LW S) (hb : BdS S R 170 174 co) (hpl : R 170 2 = some p) (hB : BI P C f F T A D M) (hM : M ≤ 200000) (ht : t < 4) (hma : ma = 2 * m) (hm1 : 1 ≤ m) (hm3 : m ≤ 3) (hl : ∀ j, j < ma → L (190 + 2 * t) j = nu j) (hnu : ∀ j, j < ma → lnv nu j < pW P ∧ nu j = (nI (lnv nu j)).toInt64) {I : mkI} (hp : CPlan P S R I p) (hI : I 174 = f) (htr : I (189 + 2 * t) 2 = nI ma) : ∃ I', F_X2_seek (some 146) (some 170) (some (189 + 2 * t)) (mk S I L R n) = some (mk S I' L R n) ∧ XAc m (eX (qX f F (lnv nu)) m C (gdX (P, C, f, A, M) (qX f F (lnv nu)) m) m 0 (fun _ => 0) (0, fun _ => 0)) I' ∧ ∀ x, ¬ (146 ≤ x ∧ x ≤ 156) → S (x - 2) ≠ (14, 0) → I' x = I x := by
  obtain ⟨y1, y2, y3, y4, y5, y6, y7⟩ := id hB
  have hC := y1.1
  have hpw : C ^ m ≤ 1000 := by
    have h1 : C ^ m ≤ 10 ^ m := Nat.pow_le_pow_left hC m
    have h2 : 10 ^ m ≤ 10 ^ 3 := Nat.pow_le_pow_right (by decide) hm3
    omega
  have ncells : S (174 - 2) ≠ (14, 0) := hs.nst hw (by decide) (by decide)
  obtain ⟨I1, g1, b1, b2, b3⟩ := c_bylaw (L := L) (n := n) hs hP hw hb hpl y1 (tr := some (189 + 2 * t)) (l4 := nI m) (l5 := nI (C ^ m)) C mm_N 0 I (by omega) (by show C < 1000000; omega) hp hI (fun d h => absurd h (Nat.not_lt_zero _))
  have hI1 : I1 174 = f := by rw [b3 _ (by decide) ncells]; exact hI
  have hp1 : CPlan P S R I1 p := hp.keep hw (fun x hx q => b3 x (by unfold pa at hx; omega) q)
  obtain ⟨I2, s1, ⟨s2, s3⟩, s4, s5, s6, s7⟩ := c_start2 (L := L) (n := n) hP hw hb (cos_c hs) npa_c hpl (I := I1) hp1 (C := C) (M := M) (F := F) (T := T) (A := A) (D := D) (by rw [hI1]; exact y1) (by rw [hI1]; exact y3) (by rw [hI1]; exact fun d hd z => (y4 d hd z).1) (by rw [hI1]; exact y6)
  rw [hI1] at s2 s3 s4
  obtain ⟨o1, o2, o3, o4⟩ := ordF_ok (q := fun d => decide (f (15 + 7 * d) = 0)) (A := A) (C := C)
  have hle : ordF (fun d => decide (f (15 + 7 * d) = 0)) A C = evU f A C M 1200 := by
    rw [← ord_evU (g0 := f) (A := A) (C := C) (M := M) (fun d hd z => (y5 d hd z).1) 1200, List.filter_eq_self.mpr]
    intro d hd
    obtain ⟨d1, d2⟩ := (o4 d).mp hd
    have := (y5 d d1 (of_decide_eq_true d2)).2.1
    exact decide_eq_true (by omega)
  obtain ⟨I3, hI3⟩ : ∃ I3, I3 = up2 I2 146 5 0 := ⟨_, rfl⟩
  have k3 : ∀ x, x ≠ 146 → I3 x = I2 x := fun x hx => by rw [hI3, up2_ne _ _ _ hx]
  have s7' : ∀ x, ¬ (147 ≤ x ∧ x ≤ 152) → I2 x = I1 x := fun x hx => s7 x (by omega) (by omega) (by omega) (by omega) (by omega) (by omega)
  have ntr : S (189 + 2 * t - 2) ≠ (14, 0) := hs.nst hw (by omega) (by omega)
  have hX : XCs P C f F T A M S R p t ma (ordF (fun d => decide (f (15 + 7 * d) = 0)) A C) I3 := by
    refine ⟨hp1.keep hw (fun x hx _ => by rw [k3 x (by unfold pa at hx; omega), s7' x (by unfold pa at hx; omega)]), by rw [k3 _ (by decide), s7' _ (by omega)]; exact hI1, by rw [k3 _ (by decide)]; exact s2, fun i hi => by rw [k3 _ (by decide)]; exact s3 i hi, ?_, fun c hc => by rw [k3 _ (by decide), s7' _ (by omega)]; exact b2 c hc, by rw [k3 _ (by omega), s7' _ (by omega), b3 _ (by omega) ntr]; exact htr⟩
    rw [k3 _ (by decide), k3 _ (by decide)]
    exact s4.cg (fun l hl => s5 l (by have := hP.2.1; omega)) (fun k hk => s6 k (by have := hP.2.2.1; omega))
  obtain ⟨I4, q1, q2, q3⟩ := c_nums (L := L) (n := n) hs hP hb hpl hB ht hma hm1 hm3 hl hnu hle (by omega) o1 o2 (E := C ^ m) rfl hpw (C ^ m) mm_N 0 (0, fun _ => 0) I3 (by omega) (by show C ^ m < 1000000; omega) (Nat.le_refl _) hX ⟨by rw [hI3, up2_self]; rfl, fun h => absurd rfl h⟩
  refine ⟨I4, ?_, ?_, fun x z1 z2 => ?_⟩
  · unfold F_X2_seek
    have em : F_X10_many (some (189 + 2 * t)) (mk S I L R n) = some (nI ma, mk S I L R n) := c_many hs ht (by omega) htr
    rw [bd_v hb, fc_n hb y1 hI, b2_some, tr_v hs ht, em, b2_some, show mnI (nI C) 10 = nI C by rw [show (10 : Int32) = nI 10 from rfl, mnI_nI (by omega) (by omega), Nat.min_eq_left hC], show nI ma / (2 : Int32) = nI m by rw [show (2 : Int32) = nI 2 from rfl, nI_div (by omega) (by omega) (by omega), hma, Nat.mul_div_cancel_left m (by decide)], show mnI (nI m) 3 = nI m by rw [show (3 : Int32) = nI 3 from rfl, mnI_nI (by omega) (by omega), Nat.min_eq_left hm3]]
    have ep := c_pow (C := C) (m := m) (l0 := some 146) (l1 := some 170) (l2 := some (189 + 2 * t)) (h := mk S I L R n) hC hm3 m mm_N 0 (by omega) (by show m < 1000000; omega)
    rw [Nat.pow_zero] at ep
    refine (show F_X2_seek_28 mm_N (some 146) (some 170) (some (189 + 2 * t)) (nI C) (nI m) 1 0 (mk S I L R n) = _ from ep).trans ?_
    refine (show F_X2_seek_50 mm_N (some 146) (some 170) (some (189 + 2 * t)) (nI C) (nI m) (nI (C ^ m)) 0 (mk S I L R n) = _ from b1).trans ?_
    simp only [F_X2_seek_50]
    rw [if_pos (nI_le (Nat.le_refl _) (by omega)), gr_146_0 hs, Option.bind_some, cv_147 hs, s1, Option.bind_some, pi_146_5 hs, Option.bind_some, ← hI3]
    exact q1
  · by_cases hC0 : 0 < C
    · rw [X_same (Q := qX f F (lnv nu)) hC0 (good := gdX (P, C, f, A, M) (qX f F (lnv nu)) m) (fun p p' h => gdX_congr p p' h) (fun _ => 0)] at q2
      exact q2
    · have e0 : C = 0 := by omega
      obtain ⟨m', hm'⟩ : ∃ m', m = m' + 1 := ⟨m - 1, by omega⟩
      have e1 : C ^ m = 0 := by rw [e0, Nat.zero_pow (by omega)]
      rw [e1] at q2
      have e2 : eX (qX f F (lnv nu)) m C (gdX (P, C, f, A, M) (qX f F (lnv nu)) m) m 0 (fun _ => 0) (0, fun _ => 0) = (0, fun _ => 0) := by
        have : ∀ Q : XQ, ∀ good : (Nat → Nat) → Bool, ∀ M : Nat, eX Q M C good (m' + 1) 0 (fun _ => 0) (0, fun _ => 0) = (0, fun _ => 0) := fun Q good M => by
          rw [eX, e0]; rfl
        have h9 := this (qX f F (lnv nu)) (gdX (P, C, f, A, M) (qX f F (lnv nu)) m) m
        rw [← hm'] at h9
        exact h9
      rw [e2]
      exact q2
  · rw [q3 x (by omega) (by omega) (by omega) (by omega) (by omega) (by omega), k3 x (by omega), s7' x (by omega), b3 x (by omega) z2]
end KX
