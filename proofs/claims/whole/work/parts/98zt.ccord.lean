/-! a draft of an exchange; the class reads cords -/
/-- lines, minute, lines of text; cords; calls; laws -/
abbrev DR : Type := (Nat × Nat × Nat) × (Nat × (Nat → Nat)) × (Nat × (Nat → Nat × Nat × Nat × Nat)) × (Nat → List Nat)
abbrev dW (D : DR) : Nat := D.1.1
abbrev dM (D : DR) : Nat := D.1.2.1
abbrev dT (D : DR) : Nat := D.1.2.2
abbrev dK (D : DR) : Nat := D.2.1.1
abbrev dB (D : DR) : Nat → Nat := D.2.1.2
abbrev dC (D : DR) : Nat := D.2.2.1.1
abbrev dQ (D : DR) : Nat → Nat × Nat × Nat × Nat := D.2.2.1.2
abbrev dL (D : DR) : Nat → List Nat := D.2.2.2
abbrev DLR : Type := (Nat × Nat) ⊕ (TKN × DR)
def bitsP (B : BT) (W : Nat) : Nat → TKN → Nat → NR
  | 0, t, v => .inr (t, v)
  | r + 1, t, v => if t.2.2 = 3 then (match numP B 0 (W - 1) (-1) t with
    | .inl e => .inl e
    | .inr (t', x) => bitsP B W r t' (v ||| 2 ^ x)) else .inr (t, v)
def cordP (B : BT) (D : DR) (t : TKN) : DLR := if dK D = 3 then .inl (rf t 4) else match bitsP B (dW D) 900 (nx B t) 0 with
  | .inl e => .inl e
  | .inr (t', v) => .inr (t', (D.1, (dK D + 1, fun k => if k = dK D then (if v = 0 then 2 ^ dW D - 1 else v) else dB D k), D.2.2))
def DfC (D : DR) (l : List Nat) (I : mkI) : Prop := (I 163 6 = nI (dW D) ∧ I 163 9 = nI (dM D) ∧ I 163 10 = nI (dT D) ∧ 2 ≤ dW D ∧ dW D ≤ 8 ∧ dM D ≤ 999) ∧ (I 163 7 = nI (dK D) ∧ dK D ≤ 3 ∧ ∀ k, k < dK D → I 165 k = nI (dB D k) ∧ dB D k < 2 ^ dW D) ∧ (I 163 8 = nI (dC D) ∧ dC D ≤ 10 ∧ ∀ c, c < dC D → I 166 (4 * c) = nI (dQ D c).1 ∧ I 166 (4 * c + 1) = nI (dQ D c).2.1 ∧ I 166 (4 * c + 2) = nI (dQ D c).2.2.1 ∧ I 166 (4 * c + 3) = nI (dQ D c).2.2.2) ∧ ∀ w, w < 3 → ∃ a b, I 168 w = nI a ∧ I 169 w = nI b ∧ a ≤ b ∧ b ≤ l.length ∧ dL D w = (l.drop a).take (b - a)
theorem DfC.q {D : DR} {l : List Nat} {I I' : mkI} (h : DfC D l I) (k : kQ I I') : DfC D l I' := by
  unfold DfC
  rw [k.2 6 (by decide) (by decide) (by decide), k.2 7 (by decide) (by decide) (by decide), k.2 8 (by decide) (by decide) (by decide), k.2 9 (by decide) (by decide) (by decide), k.2 10 (by decide) (by decide) (by decide), k.1 _ (by decide) (by decide) (by decide), k.1 _ (by decide) (by decide) (by decide), k.1 _ (by decide) (by decide) (by decide), k.1 _ (by decide) (by decide) (by decide)]
  exact h
def kL (I I' : mkI) : Prop := ∀ x, ¬ (163 ≤ x ∧ x ≤ 169) → I' x = I x
theorem kQ.l {I I' : mkI} (k : kQ I I') : kL I I' := fun x hx => k.1 x (by show x ≠ 163; omega) (by show x ≠ 164; omega) (by show x ≠ 167; omega)
theorem kL.tr {I I' I'' : mkI} (h : kL I I') (h2 : kL I' I'') : kL I I'' := fun x q => (h2 x q).trans (h x q)
def DO (Z : CX0) (B : BT) (w : Nat) (l : List Nat) (r : DLR) (v : Int32) (I' : mkI) : Prop := match r with
  | .inl e => v = 0 ∧ FlC e I'
  | .inr (t', D') => v = 1 ∧ PsC Z B w t' l I' ∧ DfC D' l I'
def BRo (B : BT) (W s : Nat) (r : NR) : Prop := match r with
  | .inl e => 1 ≤ e.1 ∧ e.1 ≤ 4
  | .inr (t', v') => TKg B.1 B.2 t' ∧ s ≤ t'.1 ∧ v' < 2 ^ W
theorem BRo.le {B : BT} {W s s' : Nat} {r : NR} (h : BRo B W s r) (hs : s' ≤ s) : BRo B W s' r := by
  cases r with
  | inl e => exact h
  | inr p => exact ⟨h.1, Nat.le_trans hs h.2.1, h.2.2⟩
theorem numP_lt {B : BT} {W : Nat} (hW : 1 ≤ W) {t t' : TKN} {x : Nat} {un : Int32} (h : numP B 0 (W - 1) un t = .inr (t', x)) : x < W := by
  unfold numP at h
  split at h
  · split at h
    · rename_i z
      cases h
      omega
    · cases h
  · cases h
theorem bitsP_ok {B : BT} {W : Nat} (hW : 1 ≤ W ∧ W ≤ 8) : ∀ (r : Nat) (t : TKN) (v : Nat), TKg B.1 B.2 t → v < 2 ^ W → BRo B W t.1 (bitsP B W r t v)
  | 0, t, v, ht, hv => ⟨ht, Nat.le_refl _, hv⟩
  | r + 1, t, v, ht, hv => by
    rw [bitsP]
    by_cases e : t.2.2 = 3
    · rw [if_pos e]
      have ho := numP_ok (lo := 0) (hi := W - 1) (un := -1) ht
      cases e2 : numP B 0 (W - 1) (-1) t with
      | inl q => rw [e2] at ho; exact ho
      | inr q =>
        obtain ⟨t', x⟩ := q
        rw [e2] at ho
        exact (bitsP_ok hW r t' (v ||| 2 ^ x) ho.1 (Nat.or_lt_two_pow hv (Nat.pow_lt_pow_right (by decide) (numP_lt hW.1 e2)))).le (by have := ho.2; omega)
    · rw [if_neg e]
      exact ⟨ht, Nat.le_refl _, hv⟩
section CC
variable {Ls : Nat} {xs : Nat → Int32} {S : mkS} {L : mkL} {R : mkR} {n : Nat × Nat} {B : BT} {w : Nat}
theorem c_cordL (hs : St S R) {W : Nat} (hW : 1 ≤ W ∧ W ≤ 8) {l : List Nat} : ∀ (r g i v : Nat) (t : TKN) (I : mkI), i + r = 900 → r < g → PsC (Ls, xs, S, R) B w t l I → TKg B.1 B.2 t → l.length ≤ 900 → I 163 6 = nI W → ∃ I', kQ I I' ∧ (match bitsP B W r t v with
  | .inl e => F_X7_readCord_25 g (some 163) (nI v) (nI i) (mk S I L R n) = some (0, mk S I' L R n) ∧ FlC e I'
  | .inr (t', v') => F_X7_readCord_25 g (some 163) (nI v) (nI i) (mk S I L R n) = F_X7_readCord_74 (some 163) (nI v') (mk S I' L R n) ∧ PsC (Ls, xs, S, R) B w t' l I') := by
  intro r
  induction r with
  | zero =>
    intro g i v t I hi hg' h hg hl h6
    obtain ⟨g, rfl⟩ : ∃ y, g = y + 1 := ⟨g - 1, by omega⟩
    refine ⟨I, kQ.rf, ?_⟩
    show F_X7_readCord_25 (g + 1) _ _ _ _ = _ ∧ _
    simp only [F_X7_readCord_25]
    rw [if_pos (show (900 : Int32) ≤ nI i from nI_le (a := 900) (by omega) (by omega))]
    exact ⟨rfl, h⟩
  | succ r ih =>
    intro g i v t I hi hg' h hg hl h6
    obtain ⟨g, rfl⟩ : ∃ y, g = y + 1 := ⟨g - 1, by omega⟩
    rw [bitsP]
    by_cases e : t.2.2 = 3
    · obtain ⟨I1, v1, q1, q2, q3⟩ := c_takeNumber (L := L) (n := n) hs h hg hl (lo := 0) (hi := W - 1) (by omega) (by omega) (-1)
      have ho := numP_ok (lo := 0) (hi := W - 1) (un := -1) hg
      have q1' : F_X7_takeNumber (some 163) 0 (nI W - 1) (-1) (mk S I L R n) = some (v1, mk S I1 L R n) := by rw [nI_sub1 hW.1]; exact q1
      have head : F_X7_readCord_25 (g + 1) (some 163) (nI v) (nI i) (mk S I L R n) = if v1 = (-1 : Int32) then rZ 0 (mk S I1 L R n) else F_X7_readCord_25 g (some 163) (nI v ||| ((1 : Int32) <<< (v1 &&& 31))) (nI i + 1) (mk S I1 L R n) := by
        simp only [F_X7_readCord_25]
        rw [if_neg (show ¬ (900 : Int32) ≤ nI i from nI_ge (b := 900) (by omega) (by omega)), gr_163_0 hs, Option.bind_some, cv_164 hs, c_isNumber hs hg h.2.2.1, b2_some, decide_eq_true e, if_neg (show ¬ b2i true = 0 by decide), gi_163_6 hs, Option.bind_some, h6, cv_163 hs, q1', b2_some]
      rw [if_pos e, head]
      cases e2 : numP B 0 (W - 1) (-1) t with
      | inl q =>
        rw [e2] at q2
        obtain ⟨rfl, q2⟩ := q2
        rw [if_pos rfl, rZ_0]
        exact ⟨I1, q3, rfl, q2⟩
      | inr q =>
        obtain ⟨t', x⟩ := q
        rw [e2] at q2 ho
        obtain ⟨rfl, hx, q2⟩ := q2
        have hxW : x < W := numP_lt hW.1 e2
        rw [if_neg (nI_nm1 (by omega)), sh1 (show x < 31 by omega), nI_or, nI_1]
        obtain ⟨I2, r1, r2⟩ := ih g (i + 1) (v ||| 2 ^ x) t' I1 (by omega) (by omega) q2 ho.1 hl (by rw [q3.2 6 (by decide) (by decide) (by decide)]; exact h6)
        exact ⟨I2, q3.tr r1, r2⟩
    · rw [if_neg e]
      refine ⟨I, kQ.rf, ?_⟩
      show F_X7_readCord_25 (g + 1) _ _ _ _ = _ ∧ _
      simp only [F_X7_readCord_25]
      rw [if_neg (show ¬ (900 : Int32) ≤ nI i from nI_ge (b := 900) (by omega) (by omega)), gr_163_0 hs, Option.bind_some, cv_164 hs, c_isNumber hs hg h.2.2.1, b2_some, decide_eq_false e, if_pos (show b2i false = 0 from rfl)]
      exact ⟨rfl, h⟩
theorem c_readCord (hs : St S R) {D : DR} {t : TKN} {l : List Nat} {I : mkI} (h : PsC (Ls, xs, S, R) B w t l I) (hD : DfC D l I) (hg : TKg B.1 B.2 t) (hk : t.2.2 ≠ 0) (hl : l.length ≤ 900) : ∃ I' v, F_X7_readCord (some 163) (mk S I L R n) = some (v, mk S I' L R n) ∧ DO (Ls, xs, S, R) B w l (cordP B D t) v I' ∧ kL I I' := by
  obtain ⟨⟨d1, d2, d3, d4, d5, d6⟩, ⟨d7, d8, d9⟩, d10, d11⟩ := id hD
  unfold F_X7_readCord cordP
  rw [gi_163_7 hs, Option.bind_some, d7]
  by_cases e : dK D = 3
  · obtain ⟨I1, q1, q2, q3⟩ := c_refuse (L := L) (n := n) hs h hg hl 4
    rw [if_neg (show ¬ nI (dK D) < 3 by rw [e]; decide), if_pos e, cv_163 hs, show F_X7_refuse (some 163) 4 (mk S I L R n) = _ from q1, b2_some, rZ_0]
    exact ⟨I1, 0, rfl, ⟨rfl, q2⟩, q3.l⟩
  · obtain ⟨I1, q1, q2, q3⟩ := c_adv (L := L) (n := n) hs h hg
    have hn := nx_g hg
    obtain ⟨I2, r1, r2⟩ := c_cordL (Ls := Ls) (xs := xs) (L := L) (n := n) (B := B) (w := w) hs (W := dW D) ⟨by omega, d5⟩ (l := l) 900 mm_N 0 0 (nx B t) I1 rfl (by show 900 < 1000000; omega) q2 hn.1 hl (by rw [q3.1 _ (by decide)]; exact d1)
    have hok := bitsP_ok (B := B) (W := dW D) ⟨by omega, d5⟩ 900 (nx B t) 0 hn.1 (Nat.two_pow_pos _)
    have kk := q3.q.tr r1
    rw [if_pos (show nI (dK D) < 3 from nI_lt (b := 3) (by omega) (by omega)), if_neg e, gr_163_0 hs, Option.bind_some, cv_164 hs, q1, Option.bind_some]
    cases e2 : bitsP B (dW D) 900 (nx B t) 0 with
    | inl q =>
      rw [e2] at r2
      obtain ⟨r2, r3⟩ := r2
      rw [show F_X7_readCord_25 mm_N (some 163) 0 0 (mk S I1 L R n) = _ from r2]
      exact ⟨I2, 0, rfl, ⟨rfl, r3⟩, kk.l⟩
    | inr q =>
      obtain ⟨t', v⟩ := q
      rw [e2] at r2 hok
      obtain ⟨r2, r3⟩ := r2
      rw [show F_X7_readCord_25 mm_N (some 163) 0 0 (mk S I1 L R n) = _ from r2]
      have hD2 := hD.q kk
      obtain ⟨⟨f1, f2, f3, f4, f5, f6⟩, ⟨f7, f8, f9⟩, f10, f11⟩ := id hD2
      have h2W : 2 ^ dW D ≤ 2 ^ 8 := Nat.pow_le_pow_right (by decide) d5
      have h1W := Nat.two_pow_pos (dW D)
      obtain ⟨x, hx⟩ : ∃ x, x = if v = 0 then 2 ^ dW D - 1 else v := ⟨_, rfl⟩
      have hx2 : x < 2 ^ dW D := by
        rw [hx]
        split
        · omega
        · exact hok.2.2
      have h74 : F_X7_readCord_74 (some 163) (nI v) (mk S I2 L R n) = F_X7_readCord_98 (some 163) (nI x) (nI (dK D)) (some 165) (mk S I2 L R n) := by
        unfold F_X7_readCord_74
        rw [gr_163_1 hs, Option.bind_some, gi_163_7 hs, Option.bind_some, f7, gi_163_6 hs, Option.bind_some, f1, hx]
        by_cases e3 : v = 0
        · rw [if_pos (by rw [e3]; rfl), if_pos e3, sh1 (show dW D < 31 by omega), nI_sub1 h1W]
        · rw [if_neg (show ¬ nI v = 0 from fun z => e3 ((nI_eq (b := 0) (by have := hok.2.2; omega) (by omega)).mp z)), if_neg e3]
      obtain ⟨J, hJ⟩ : ∃ J, J = up2 (up2 I2 165 (dK D) (nI x)) 163 7 (nI (dK D + 1)) := ⟨_, rfl⟩
      have kJ : ∀ y, y ≠ 165 → y ≠ 163 → J y = I2 y := fun y a b => by rw [hJ, up2_ne _ _ _ b, up2_ne _ _ _ a]
      have pJ : ∀ j, j ≠ 7 → J 163 j = I2 163 j := fun j hj => by rw [hJ, up2_row, up1_ne _ _ hj, up2_ne _ _ _ (by decide)]
      have h98 : F_X7_readCord_98 (some 163) (nI x) (nI (dK D)) (some 165) (mk S I2 L R n) = some (1, mk S J L R n) := by
        unfold F_X7_readCord_98
        rw [show sI (mk S I2 L R n) (some 165) 0 (nI (dK D)) (nI x) = some (mk S (up2 I2 165 (dK D) (nI x)) L R n) from mk_sJ0 (S_165 hs) (by omega) (by decide) (by decide), Option.bind_some, gi_163_7 hs, Option.bind_some, up2_ne _ _ _ (by decide), f7, nI_1, pi_163_7 hs, Option.bind_some, ← hJ, rZ_1]
        rfl
      obtain ⟨p1, p2, p3, p4, p5, p6⟩ := r3
      refine ⟨J, 1, h74.trans h98, ⟨rfl, ⟨p1.fr (fun _ _ => rfl) (fun a ha => kJ a (by show a ≠ 165; omega) (by show a ≠ 163; omega)) (fun _ _ => rfl), by unfold TpC; rw [kJ _ (by decide) (by decide), kJ _ (by decide) (by decide)]; exact p2, by unfold TkC; rw [kJ _ (by decide) (by decide)]; exact p3, by rw [pJ 12 (by decide), pJ 13 (by decide), pJ 14 (by decide)]; exact p4, by rw [pJ _ (by decide)]; exact p5, by rw [kJ _ (by decide) (by decide)]; exact p6⟩, ⟨⟨by rw [pJ _ (by decide)]; exact f1, by rw [pJ _ (by decide)]; exact f2, by rw [pJ _ (by decide)]; exact f3, f4, f5, f6⟩, ⟨by rw [hJ, up2_self], by show dK D + 1 ≤ 3; omega, fun k hk => ?_⟩, ⟨by rw [pJ _ (by decide)]; exact f10.1, f10.2.1, by rw [kJ _ (by decide) (by decide)]; exact f10.2.2⟩, by rw [kJ _ (by decide) (by decide), kJ _ (by decide) (by decide)]; exact f11⟩⟩, kk.l.tr (fun y hy => kJ y (by show y ≠ 165; omega) (by show y ≠ 163; omega))⟩
      have hk' : k < dK D + 1 := hk
      show J 165 k = nI (if k = dK D then (if v = 0 then 2 ^ dW D - 1 else v) else dB D k) ∧ (if k = dK D then (if v = 0 then 2 ^ dW D - 1 else v) else dB D k) < 2 ^ dW D
      rw [hJ, up2_ne _ _ _ (by decide), up2_row]
      by_cases e4 : k = dK D
      · rw [if_pos e4, e4, up1_self, ← hx]
        exact ⟨rfl, hx2⟩
      · rw [if_neg e4, up1_ne _ _ e4]
        exact f9 k (by omega)
end CC
