/-! the reference reads cords, calls, minutes -/
/-- the reference's draft -/
def DfR (D : DR) (K : Nat → Int32) : Prop := (K 0 = nI (dT D) ∧ K 1 = nI (dW D) ∧ K 47 = nI (dM D)) ∧ (K 2 = nI (dK D) ∧ ∀ k, k < dK D → K (48 + k) = nI (dB D k)) ∧ (K 7 = nI (dC D) ∧ ∀ c, c < dC D → (K (51 + c) = nI (dQ D c).1 ∧ K (61 + c) = nI (dQ D c).2.1 ∧ K (71 + c) = nI (dQ D c).2.2.1 ∧ K (81 + c) = nI (dQ D c).2.2.2) ∧ K (8 + c) = 0 ∧ K (18 + c) = -1 ∧ K (28 + c) = -1) ∧ ((∀ l, l < 8 → K (38 + l) = -1) ∧ K 46 = 0 ∧ K 6 = 0) ∧ ∀ w, w < 3 → K (3 + w) = nI (dL D w).length ∧ ∀ j, j < (dL D w).length → K (501 + 900 * w + j) = nI (gam ((dL D w).getD j 0))
def ETo (Z : CX0) (B : BT) (r : DLR) (I' : mkI) : Prop := match r with
  | .inl e => FlR e I'
  | .inr (t', D') => PN Z B t' I' ∧ DfR D' (I' 199)
def kNl (I I' : mkI) : Prop := (∀ x, x ≠ 197 → x ≠ 199 → I' x = I x) ∧ ∀ j, ¬ (8 ≤ j ∧ j ≤ 13) → ¬ (16 ≤ j ∧ j ≤ 18) → I' 197 j = I 197 j
theorem kNl.rf {I : mkI} : kNl I I := ⟨fun _ _ _ => rfl, fun _ _ _ => rfl⟩
theorem kNl.tr {I I' I'' : mkI} (h : kNl I I') (h2 : kNl I' I'') : kNl I I'' := ⟨fun x a b => (h2.1 x a b).trans (h.1 x a b), fun j a b => (h2.2 j a b).trans (h.2 j a b)⟩
theorem kMB.n {I I' : mkI} (h : kMB I I') : kNl I I' := ⟨fun x a _ => h.1 x a, fun j a _ => h.2 j a⟩
theorem kE.n {w : Nat} {I I' : mkI} (h : kE w I I') : kNl I I' := ⟨h.1, fun j a b => h.2.1 j a (by omega)⟩
/-- only the telling differs -/
def kTl (I I' : mkI) : Prop := ∀ x, x ≠ 199 → I' x = I x
theorem kTl.n {I I' : mkI} (h : kTl I I') : kNl I I' := ⟨fun x _ b => h x b, fun j _ _ => by rw [h _ (by decide)]⟩
section E1
variable {Ls : Nat} {xs : Nat → Int32} {S : mkS} {L : mkL} {R : mkR} {n : Nat × Nat} {B : BT}
theorem PN.tl {t : TKN} {I I' : mkI} (h : PN (Ls, xs, S, R) B t I) (k : kTl I I') : PN (Ls, xs, S, R) B t I' := by
  obtain ⟨h1, h2, h3, h4, h5⟩ := h
  exact ⟨h1.fr (fun _ _ => rfl) (fun a ha => k a (by show a ≠ 199; omega)) (fun _ _ => rfl), by unfold TpR; rw [k _ (by decide), k _ (by decide)]; exact h2, by unfold TkR; rw [k _ (by decide)]; exact h3, by rw [k _ (by decide)]; exact h4, by rw [k _ (by decide)]; exact h5⟩
theorem e_begins (hs : St S R) {t : TKN} {I : mkI} (h : PN (Ls, xs, S, R) B t I) (hg : TKg B.1 B.2 t) {many most c : Nat} (hm : many < 3205) (hc : I 199 many = nI c) (hc2 : c ≤ most) (hmo : most < 100) : ∃ I' v, F_X12_begins (some 197) (nI many) (nI most) (mk S I L R n) = some (v, mk S I' L R n) ∧ (if c = most then v = 0 ∧ FlR (rf t 4) I' else v = 1 ∧ PN (Ls, xs, S, R) B (nx B t) I' ∧ kM I I') ∧ kMB I I' := by
  unfold F_X12_begins
  rw [gr_197_1 hs, Option.bind_some, ai_199 hs hm, Option.bind_some, hc]
  by_cases e : c = most
  · obtain ⟨I1, q1, q2, q3⟩ := e_bl0 (L := L) (n := n) hs h hg (k := 4) (by omega)
    rw [if_pos (by rw [e]), cv_197 hs, show F_X12_blames (some 197) 4 (mk S I L R n) = _ from q1, Option.bind_some]
    unfold F_X12_begins_15 F_X12_begins_26 F_X12_begins_38
    rw [gi_197_12 hs, Option.bind_some, if_neg q2.ne, Option.bind_some, if_neg q2.ne, rZ_0]
    exact ⟨I1, 0, rfl, by rw [if_pos e]; exact ⟨rfl, q2⟩, q3⟩
  · obtain ⟨I1, q1, q2, q3⟩ := e_adv0 (L := L) (n := n) hs h hg
    rw [if_neg (fun z => e ((nI_eq (by omega) (by omega)).mp z))]
    unfold F_X12_begins_15 F_X12_begins_26 F_X12_begins_38
    rw [gi_197_12 hs, Option.bind_some, h.2.2.2.1, if_pos rfl, cv_197 hs, q1, Option.bind_some, gi_197_12 hs, Option.bind_some, q2.2.2.2.1, if_pos rfl, rZ_1]
    exact ⟨I1, 1, rfl, by rw [if_neg e]; exact ⟨rfl, q2, q3⟩, q3.b⟩
theorem e_ltold (hs : St S R) {t : TKN} {I : mkI} (h : PN (Ls, xs, S, R) B t I) (hg : TKg B.1 B.2 t) {W : Nat} (hW : 2 ≤ W ∧ W ≤ 8) (h1 : I 199 1 = nI W) {un : Int32} (hun : t.2.2 = 3 → nI (nmV B.1 t) ≠ un) : ∃ I' v, F_X12_lineTold (some 197) (mk S I L R n) = some (v, mk S I' L R n) ∧ NE (Ls, xs, S, R) B I (numP B 0 (W - 1) un t) v I' ∧ (∃ x, v = nI x ∧ x < W) ∧ kMB I I' := by
  obtain ⟨I', v, q1, q2, q3, q4⟩ := e_num (L := L) (n := n) hs h hg (lo := 0) (hi := W - 1) (by omega) (by omega) hun
  unfold F_X12_lineTold
  rw [gr_197_1 hs, Option.bind_some, show aI (mk S I L R n) (some 199) 0 (1 : Int32) = _ from ai_199 (k := 1) hs (by omega), Option.bind_some, h1, nI_sub1 (by omega), cv_197 hs, show F_X12_number (some 197) 0 (nI (W - 1)) (mk S I L R n) = _ from q1, b2_some]
  refine ⟨I', v, rfl, q2, ?_, q4⟩
  rcases q3 with q3 | ⟨x, q3, q5⟩
  · exact ⟨0, q3, by omega⟩
  · exact ⟨x, q3, numP_lt (by omega) q5⟩
theorem e_ltoldF (hs : St S R) {I : mkI} (h : ¬ I 197 12 = 0) : F_X12_lineTold (some 197) (mk S I L R n) = some (0, mk S I L R n) := by
  unfold F_X12_lineTold
  rw [gr_197_1 hs, Option.bind_some, show aI (mk S I L R n) (some 199) 0 (1 : Int32) = _ from ai_199 (k := 1) hs (by omega), Option.bind_some, cv_197 hs, e_numF hs h, b2_some]
theorem e_cordL (hs : St S R) {W : Nat} (hW : 2 ≤ W ∧ W ≤ 8) : ∀ (r g v : Nat) (t : TKN) (I : mkI), 900 ≤ t.1 + r → r + 1 < g → B.2 ≤ 900 → PN (Ls, xs, S, R) B t I → TKg B.1 B.2 t → I 199 1 = nI W → ∃ I', kMB I I' ∧ (match bitsP B W r t v with
  | .inl e => F_X12_readCord_12 g (some 197) (nI v) (mk S I L R n) = some (mk S I' L R n) ∧ FlR e I'
  | .inr (t', v') => F_X12_readCord_12 g (some 197) (nI v) (mk S I L R n) = F_X12_readCord_39 (some 197) (nI v') (mk S I' L R n) ∧ PN (Ls, xs, S, R) B t' I' ∧ kM I I') := by
  intro r
  have out : ∀ (g v : Nat) (t : TKN) (I : mkI), 0 < g → PN (Ls, xs, S, R) B t I → TKg B.1 B.2 t → t.2.2 ≠ 3 → F_X12_readCord_12 g (some 197) (nI v) (mk S I L R n) = F_X12_readCord_39 (some 197) (nI v) (mk S I L R n) := fun g v t I hg' h hg e => by
    obtain ⟨g, rfl⟩ : ∃ y, g = y + 1 := ⟨g - 1, by omega⟩
    obtain ⟨r1, -, -, -, r5, -⟩ := rtk_all hg
    simp only [F_X12_readCord_12]
    rw [gi_197_12 hs, Option.bind_some, h.2.2.2.1, if_pos rfl, gi_197_10 hs, Option.bind_some, h.2.2.1.2.2.1, if_neg (show ¬ nI (rtk B.1 t) = 2 from fun z => e (r5.mp ((nI_eq (b := 2) (by omega) (by omega)).mp z)))]
  induction r with
  | zero =>
    intro g v t I hi hg' hB h hg h1
    refine ⟨I, kMB.rf, out g v t I (by omega) h hg (fun e => ?_), h, kM.rf⟩
    have := hg.1.2.2.2.2 (by omega)
    have := hg.1.2.1
    omega
  | succ r ih =>
    intro g v t I hi hg' hB h hg h1
    rw [bitsP]
    by_cases e : t.2.2 = 3
    · obtain ⟨g, rfl⟩ : ∃ y, g = y + 1 := ⟨g - 1, by omega⟩
      obtain ⟨r1, -, -, -, r5, -⟩ := rtk_all hg
      obtain ⟨I1, v1, q1, q2, -, q4⟩ := e_ltold (L := L) (n := n) hs h hg hW h1 (e_un1 hg)
      have ho := numP_ok (lo := 0) (hi := W - 1) (un := -1) hg
      have head : F_X12_readCord_12 (g + 1) (some 197) (nI v) (mk S I L R n) = F_X12_readCord_12 g (some 197) (nI v ||| ((1 : Int32) <<< (v1 &&& 31))) (mk S I1 L R n) := by
        simp only [F_X12_readCord_12]
        rw [gi_197_12 hs, Option.bind_some, h.2.2.2.1, if_pos rfl, gi_197_10 hs, Option.bind_some, h.2.2.1.2.2.1, if_pos (show nI (rtk B.1 t) = 2 by rw [r5.mpr e]; rfl), cv_197 hs, q1, b2_some]
      rw [if_pos e, head]
      cases e2 : numP B 0 (W - 1) (-1) t with
      | inl q =>
        rw [e2] at q2
        have q2 : FlR q I1 := q2
        refine ⟨I1, q4, ?_, q2⟩
        obtain ⟨g, rfl⟩ : ∃ y, g = y + 1 := ⟨g - 1, by omega⟩
        simp only [F_X12_readCord_12]
        unfold F_X12_readCord_39
        rw [gi_197_12 hs, Option.bind_some, if_neg q2.ne, Option.bind_some, if_neg q2.ne]
      | inr q =>
        obtain ⟨t', x⟩ := q
        rw [e2] at q2 ho
        obtain ⟨rfl, hx, q2, q5⟩ := q2
        have hxW : x < W := numP_lt (by omega) e2
        rw [sh1 (show x < 31 by omega), nI_or]
        obtain ⟨I2, s1, s2⟩ := ih g (v ||| 2 ^ x) t' I1 (by have := ho.2; omega) (by omega) hB q2 ho.1 (by rw [q5.1 _ (by decide)]; exact h1)
        refine ⟨I2, q4.tr s1, ?_⟩
        show (match bitsP B W r t' (v ||| 2 ^ x) with
          | .inl e => F_X12_readCord_12 g (some 197) (nI (v ||| 2 ^ x)) (mk S I1 L R n) = some (mk S I2 L R n) ∧ FlR e I2
          | .inr (t', v') => F_X12_readCord_12 g (some 197) (nI (v ||| 2 ^ x)) (mk S I1 L R n) = F_X12_readCord_39 (some 197) (nI v') (mk S I2 L R n) ∧ PN (Ls, xs, S, R) B t' I2 ∧ kM I I2)
        revert s2
        cases bitsP B W r t' (v ||| 2 ^ x) with
        | inl e => exact fun s2 => s2
        | inr p => exact fun s2 => ⟨s2.1, s2.2.1, q5.tr s2.2.2⟩
    · rw [if_neg e]
      exact ⟨I, kMB.rf, out g v t I (by omega) h hg e, h, kM.rf⟩
theorem e_readCord (hs : St S R) (hB : B.2 ≤ 900) {D : DR} {t : TKN} {I : mkI} (h : PN (Ls, xs, S, R) B t I) (hD : DfR D (I 199)) (hG : DG D) (hg : TKg B.1 B.2 t) : ∃ I', F_X12_readCord (some 197) (mk S I L R n) = some (mk S I' L R n) ∧ ETo (Ls, xs, S, R) B (cordP B D t) I' ∧ kNl I I' := by
  obtain ⟨⟨d1, d2, d3⟩, ⟨d4, d5⟩, d6, d7, d8⟩ := id hD
  obtain ⟨⟨a1, a2, a3⟩, ⟨a4, a5⟩, a6⟩ := id hG
  obtain ⟨I1, v1, q1, q2, q3⟩ := e_begins (L := L) (n := n) hs h hg (many := 2) (most := 3) (by omega) d4 a4 (by omega)
  unfold F_X12_readCord cordP
  rw [cv_197 hs, show F_X12_begins (some 197) 2 3 (mk S I L R n) = _ from q1, b2_some]
  by_cases e : dK D = 3
  · rw [if_pos e] at q2 ⊢
    obtain ⟨rfl, q2⟩ := q2
    rw [if_pos rfl]
    exact ⟨I1, rfl, q2, q3.n⟩
  · rw [if_neg e] at q2 ⊢
    obtain ⟨rfl, q2, q5⟩ := q2
    have hn := nx_g hg
    have t1 : I1 199 = I 199 := q5.1 _ (by decide)
    obtain ⟨I2, r1, r2⟩ := e_cordL (Ls := Ls) (xs := xs) (L := L) (n := n) (B := B) hs (W := dW D) ⟨a1, a2⟩ 900 mm_N 0 (nx B t) I1 (by omega) (by show 900 + 1 < 1000000; omega) hB q2 hn.1 (by rw [t1]; exact d2)
    have hok := bitsP_ok (B := B) (W := dW D) ⟨by omega, a2⟩ 900 (nx B t) 0 hn.1 (Nat.two_pow_pos _)
    rw [if_neg (by decide)]
    cases e2 : bitsP B (dW D) 900 (nx B t) 0 with
    | inl q =>
      rw [e2] at r2
      obtain ⟨r2, r3⟩ := r2
      rw [show F_X12_readCord_12 mm_N (some 197) 0 (mk S I1 L R n) = _ from r2]
      exact ⟨I2, rfl, r3, (q3.tr r1).n⟩
    | inr q =>
      obtain ⟨t', v⟩ := q
      rw [e2] at r2 hok
      obtain ⟨r2, r3, r4⟩ := r2
      rw [show F_X12_readCord_12 mm_N (some 197) 0 (mk S I1 L R n) = _ from r2]
      have t2 : I2 199 = I 199 := (r4.1 _ (by decide)).trans t1
      have h1W := Nat.two_pow_pos (dW D)
      obtain ⟨x, hx⟩ : ∃ x, x = if v = 0 then 2 ^ dW D - 1 else v := ⟨_, rfl⟩
      obtain ⟨J, hJ⟩ : ∃ J, J = up2 (up2 I2 199 (48 + dK D) (nI x)) 199 2 (nI (dK D + 1)) := ⟨_, rfl⟩
      have kJ : kTl I2 J := fun y a => by rw [hJ, up2_ne _ _ _ a, up2_ne _ _ _ a]
      have pJ : ∀ j, j ≠ 2 → j ≠ 48 + dK D → J 199 j = I 199 j := fun j b c => by rw [hJ, up2_row, up1_ne _ _ b, up2_row, up1_ne _ _ c, t2]
      have h78 : F_X12_readCord_78 (some 197) (nI x) (nI (48 + dK D)) (some 199) (mk S I2 L R n) = some (mk S J L R n) := by
        unfold F_X12_readCord_78
        rw [si_199 hs (by omega), Option.bind_some, gr_197_1 hs, Option.bind_some, show (2 : Int32) = nI 2 from rfl, ai_199 hs (by omega), Option.bind_some, up2_row, up1_ne _ _ (by omega), t2, d4, nI_1, si_199 hs (by omega), Option.bind_some, ← hJ]
      have h39 : F_X12_readCord_39 (some 197) (nI v) (mk S I2 L R n) = some (mk S J L R n) := by
        unfold F_X12_readCord_39
        rw [gi_197_12 hs, Option.bind_some, r3.2.2.2.1, if_pos rfl, gr_197_1 hs, Option.bind_some, Option.bind_some, show aI (mk S I2 L R n) (some 199) 0 (2 : Int32) = _ from ai_199 (k := 2) hs (by omega), Option.bind_some, t2, d4, show (48 : Int32) + nI (dK D) = nI (48 + dK D) from nI_add 48 _]
        by_cases e3 : v = 0
        · rw [if_pos e3] at hx
          rw [if_pos (by rw [e3]; rfl), Option.bind_some, show aI (mk S I2 L R n) (some 199) 0 (1 : Int32) = _ from ai_199 (k := 1) hs (by omega), Option.bind_some, t2, d2, sh1 (show dW D < 31 by omega), nI_sub1 h1W, ← hx, h78]
        · rw [if_neg e3] at hx
          rw [if_neg (show ¬ nI v = 0 from fun z => e3 ((nI_eq (b := 0) (by have := hok.2.2; have : 2 ^ dW D ≤ 2 ^ 8 := Nat.pow_le_pow_right (by decide) a2; omega) (by omega)).mp z)), ← hx, h78]
      refine ⟨J, h39, ⟨r3.tl kJ, ⟨by rw [pJ _ (by omega) (by omega)]; exact d1, by rw [pJ _ (by omega) (by omega)]; exact d2, by rw [pJ _ (by omega) (by omega)]; exact d3⟩, ⟨by rw [hJ, up2_self], fun k hk => ?_⟩, ⟨by rw [pJ _ (by omega) (by omega)]; exact d6.1, fun c hc => ?_⟩, ⟨fun l hl => by rw [pJ _ (by omega) (by omega)]; exact d7.1 l hl, by rw [pJ _ (by omega) (by omega)]; exact d7.2.1, by rw [pJ _ (by omega) (by omega)]; exact d7.2.2⟩, fun w hw => ⟨by rw [pJ _ (by omega) (by omega)]; exact (d8 w hw).1, fun j hj => by rw [pJ _ (by omega) (by omega)]; exact (d8 w hw).2 j hj⟩⟩, (q3.tr r1).n.tr kJ.n⟩
      · have hk' : k < dK D + 1 := hk
        show J 199 (48 + k) = nI (if k = dK D then (if v = 0 then 2 ^ dW D - 1 else v) else dB D k)
        by_cases e4 : k = dK D
        · rw [if_pos e4, ← hx, e4, hJ, up2_row, up1_ne _ _ (by omega), up2_self]
        · rw [if_neg e4, pJ _ (by omega) (by omega)]
          exact d5 k (by omega)
      · have hc' : c < dC D := hc
        have := a6.1.1
        rw [pJ _ (by omega) (by omega), pJ _ (by omega) (by omega), pJ _ (by omega) (by omega), pJ _ (by omega) (by omega), pJ _ (by omega) (by omega), pJ _ (by omega) (by omega), pJ _ (by omega) (by omega)]
        exact d6.2 c hc
end E1
