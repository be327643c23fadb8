/-! the class reads a law: sums -/
abbrev CX0 : Type := Nat × (Nat → Int32) × mkS × mkR
def PsC (Z : CX0) (B : BT) (w : Nat) (t : TKN) (l : List Nat) (I : mkI) : Prop := Low Z.1 Z.2.1 Z.2.2.1 I Z.2.2.2 ∧ TpC B.1 B.2 I ∧ TkC B.1 t I ∧ (I 163 12 = nI w ∧ I 163 13 = 0 ∧ I 163 14 = -1) ∧ I 163 11 = nI l.length ∧ ∀ j, j < l.length → I 167 j = nI (l.getD j 0)
def FlC (e : Nat × Nat) (I : mkI) : Prop := I 163 13 = nI e.1 ∧ I 163 14 = nI e.2 ∧ ∃ c, c ≤ 900 ∧ I 163 11 = nI c
def kQ (I I' : mkI) : Prop := (∀ x, x ≠ 163 → x ≠ 164 → x ≠ 167 → I' x = I x) ∧ ∀ j, j ≠ 11 → j ≠ 13 → j ≠ 14 → I' 163 j = I 163 j
theorem kQ.rf {I : mkI} : kQ I I := ⟨fun _ _ _ _ => rfl, fun _ _ _ _ => rfl⟩
theorem kQ.tr {I I' I'' : mkI} (h : kQ I I') (h2 : kQ I' I'') : kQ I I'' := ⟨fun x a b c => (h2.1 x a b c).trans (h.1 x a b c), fun j a b c => (h2.2 j a b c).trans (h.2 j a b c)⟩
theorem kT.q {I I' : mkI} (h : kT I I') : kQ I I' := ⟨fun x _ b _ => h.1 x b, fun j _ _ _ => by rw [h.1 _ (by decide)]⟩
theorem kQ.low {Ls : Nat} {xs : Nat → Int32} {S : mkS} {R : mkR} {I I' : mkI} (k : kQ I I') (h : Low Ls xs S I R) : Low Ls xs S I' R := h.fr (fun _ _ => rfl) (fun a ha => k.1 a (by show a ≠ 163; omega) (by show a ≠ 164; omega) (by show a ≠ 167; omega)) (fun _ _ => rfl)
def CO (Z : CX0) (B : BT) (w : Nat) (l : List Nat) (r : LR) (v : Int32) (I' : mkI) : Prop := match r with
  | .inl e => v = 0 ∧ FlC e I'
  | .inr (t', l') => v = 1 ∧ PsC Z B w t' (l ++ l') I'
theorem getD_last (l : List Nat) (o : Nat) : (l ++ [o]).getD l.length 0 = o := by simp [List.getD]
theorem getD_fst {l : List Nat} (m : List Nat) {j : Nat} (h : j < l.length) : (l ++ m).getD j 0 = l.getD j 0 := by simp [List.getD, List.getElem?_append, h]
section CL
variable {Ls : Nat} {xs : Nat → Int32} {S : mkS} {L : mkL} {R : mkR} {n : Nat × Nat} {B : BT} {w : Nat}
/-- a reader of the class's reads what f finds -/
def CSp (Ls : Nat) (xs : Nat → Int32) (S : mkS) (L : mkL) (R : mkR) (n : Nat × Nat) (B : BT) (w : Nat) (φ : MH → Option (Int32 × MH)) (f : TKN → LR) : Prop := ∀ t l I, PsC (Ls, xs, S, R) B w t l I → TKg B.1 B.2 t → l.length ≤ t.1 → ∃ I' v, φ (mk S I L R n) = some (v, mk S I' L R n) ∧ CO (Ls, xs, S, R) B w l (f t) v I' ∧ kQ I I'
theorem c_emit (hs : St S R) {t : TKN} {l : List Nat} {I : mkI} (h : PsC (Ls, xs, S, R) B w t l I) (hl : l.length < 900) (o : Nat) : ∃ I', F_X7_emit (some 163) (nI o) (mk S I L R n) = some (mk S I' L R n) ∧ PsC (Ls, xs, S, R) B w t (l ++ [o]) I' ∧ kQ I I' := by
  obtain ⟨h1, h2, h3, h4, h5, h6⟩ := h
  have k1 : kQ I (up2 (up2 I 167 l.length (nI o)) 163 11 (nI (l.length + 1))) := ⟨fun x a _ c => by rw [up2_ne _ _ _ a, up2_ne _ _ _ c], fun j a _ _ => by rw [up2_row, up1_ne _ _ a, up2_ne _ _ _ (by decide)]⟩
  refine ⟨_, ?_, ⟨k1.low h1, ?_, ?_, ?_, ?_, fun j hj => ?_⟩, k1⟩
  · unfold F_X7_emit F_X7_emit_30
    rw [gi_163_11 hs, Option.bind_some, h5, if_neg (show ¬ (900 : Int32) ≤ nI l.length from nI_ge (b := 900) hl (by omega)), gr_163_3 hs, Option.bind_some, Option.bind_some, si_167 hs hl, Option.bind_some, gi_163_11 hs, Option.bind_some, up2_ne _ _ _ (by decide), h5, nI_1, pi_163_11 hs, Option.bind_some]
  · unfold TpC
    rw [up2_ne _ _ _ (by decide), up2_ne _ _ _ (by decide), up2_ne _ _ _ (by decide), up2_ne _ _ _ (by decide)]; exact h2
  · unfold TkC
    rw [up2_ne _ _ _ (by decide), up2_ne _ _ _ (by decide)]; exact h3
  · rw [up2_row, up1_ne _ _ (show (12 : Nat) ≠ 11 by decide), up1_ne _ _ (show (13 : Nat) ≠ 11 by decide), up1_ne _ _ (show (14 : Nat) ≠ 11 by decide), up2_ne _ _ _ (by decide)]; exact h4
  · rw [up2_self, List.length_append]; rfl
  · rw [up2_ne _ _ _ (by decide), up2_row]
    rw [List.length_append] at hj
    by_cases e : j = l.length
    · rw [e, up1_self, getD_last]
    · have hj' : j < l.length := by have : j < l.length + 1 := hj; omega
      rw [up1_ne _ _ e, getD_fst _ hj']; exact h6 j hj'
theorem c_emitF (hs : St S R) {e : Nat × Nat} {I : mkI} (h : FlC e I) (o : Int32) : ∃ I', F_X7_emit (some 163) o (mk S I L R n) = some (mk S I' L R n) ∧ FlC e I' ∧ kQ I I' := by
  obtain ⟨h1, h2, c, h3, h4⟩ := h
  unfold F_X7_emit F_X7_emit_30
  rw [gi_163_11 hs, Option.bind_some, h4]
  by_cases e9 : 900 ≤ c
  · rw [if_pos (show (900 : Int32) ≤ nI c from nI_le (a := 900) e9 (by omega))]
    exact ⟨I, rfl, ⟨h1, h2, c, h3, h4⟩, kQ.rf⟩
  · rw [if_neg (show ¬ (900 : Int32) ≤ nI c from nI_ge (b := 900) (by omega) (by omega)), gr_163_3 hs, Option.bind_some, Option.bind_some, si_167 hs (by omega), Option.bind_some, gi_163_11 hs, Option.bind_some, up2_ne _ _ _ (by decide), h4, nI_1, pi_163_11 hs, Option.bind_some]
    exact ⟨_, rfl, ⟨by rw [up2_row, up1_ne _ _ (by decide), up2_ne _ _ _ (by decide)]; exact h1, by rw [up2_row, up1_ne _ _ (by decide), up2_ne _ _ _ (by decide)]; exact h2, c + 1, by omega, up2_self _ _ _ _⟩, ⟨fun x a _ d => by rw [up2_ne _ _ _ a, up2_ne _ _ _ d], fun j a _ _ => by rw [up2_row, up1_ne _ _ a, up2_ne _ _ _ (by decide)]⟩⟩
theorem c_adv (hs : St S R) {t : TKN} {l : List Nat} {I : mkI} (h : PsC (Ls, xs, S, R) B w t l I) (hg : TKg B.1 B.2 t) : ∃ I', F_X9_advance (some 164) (mk S I L R n) = some (mk S I' L R n) ∧ PsC (Ls, xs, S, R) B w (nx B t) l I' ∧ kT I I' := by
  obtain ⟨h1, h2, h3, h4, h5, h6⟩ := h
  obtain ⟨I', q1, q2, q3⟩ := c_advance (L := L) (n := n) hs h1 h2 hg.1.2.1 h3.1
  exact ⟨I', q1, ⟨q3.q.low h1, q3.tp h2, q2, by rw [q3.1 _ (by decide)]; exact h4, by rw [q3.1 _ (by decide)]; exact h5, by rw [q3.1 _ (by decide)]; exact h6⟩, q3⟩
theorem c_refuse (hs : St S R) {t : TKN} {l : List Nat} {I : mkI} (h : PsC (Ls, xs, S, R) B w t l I) (hg : TKg B.1 B.2 t) (hl : l.length ≤ 900) (k : Nat) : ∃ I', F_X7_refuse (some 163) (nI k) (mk S I L R n) = some (0, mk S I' L R n) ∧ FlC (rf t k) I' ∧ kQ I I' := by
  obtain ⟨h1, h2, h3, h4, h5, h6⟩ := h
  have go : ∀ f : Nat, ∃ I', F_X7_refuse_16 (some 163) (nI f) (some 163) (mk S I L R n) = some (0, mk S I' L R n) ∧ FlC (f, t.1) I' ∧ kQ I I' := fun f => by
    unfold F_X7_refuse_16
    rw [pi_163_13 hs, Option.bind_some, gr_163_0 hs, Option.bind_some, cv_164 hs, c_tstart hs (t := t) (tb := B.1) (by unfold TkC; rw [up2_ne _ _ _ (by decide)]; exact h3), b2_some, pi_163_14 hs, Option.bind_some, rZ_0]
    exact ⟨_, rfl, ⟨by rw [up2_row, up1_ne _ _ (by decide), up2_self], up2_self _ _ _ _, l.length, hl, by rw [up2_row, up1_ne _ _ (by decide), up2_row, up1_ne _ _ (by decide)]; exact h5⟩, ⟨fun x a _ _ => by rw [up2_ne _ _ _ a, up2_ne _ _ _ a], fun j _ a b => by rw [up2_row, up1_ne _ _ b, up2_row, up1_ne _ _ a]⟩⟩
  unfold F_X7_refuse
  rw [gr_163_0 hs, Option.bind_some, cv_164 hs, c_isBad hs hg h3, b2_some]
  unfold rf
  by_cases e : t.2.2 = 1
  · rw [decide_eq_true e, if_neg (show ¬ b2i true = 0 by decide), if_pos e]
    exact go 1
  · rw [decide_eq_false e, if_pos (show b2i false = 0 from rfl), if_neg e]
    exact go k
theorem PsC.len {t : TKN} {l : List Nat} {I : mkI} (h : PsC (Ls, xs, S, R) B w t l I) (hg : TKg B.1 B.2 t) (hl : l.length ≤ t.1) : l.length ≤ 900 := by
  have := h.2.1.1
  have := hg.1.1
  omega
theorem c_takeSign (hs : St S R) {t : TKN} {l : List Nat} {I : mkI} (h : PsC (Ls, xs, S, R) B w t l I) (hg : TKg B.1 B.2 t) (hl : l.length ≤ 900) {c : Nat} (hc : c < 128) : ∃ I' v, F_X7_takeSign (some 163) (nI c) (mk S I L R n) = some (v, mk S I' L R n) ∧ (if sgB B.1 t c = true then v = 1 ∧ PsC (Ls, xs, S, R) B w (nx B t) l I' else v = 0 ∧ FlC (rf t 2) I') ∧ kQ I I' := by
  unfold F_X7_takeSign
  rw [gr_163_0 hs, Option.bind_some, cv_164 hs, c_isSign hs h.2.1 hg h.2.2.1 hc, b2_some, cv_163 hs]
  cases e : sgB B.1 t c with
  | false =>
    obtain ⟨I', q1, q2, q3⟩ := c_refuse (L := L) (n := n) hs h hg hl 2
    rw [if_pos (show b2i false = 0 from rfl), show F_X7_refuse (some 163) 2 (mk S I L R n) = _ from q1, b2_some, rZ_0]
    exact ⟨I', 0, rfl, by rw [if_neg Bool.false_ne_true]; exact ⟨rfl, q2⟩, q3⟩
  | true =>
    obtain ⟨I', q1, q2, q3⟩ := c_adv (L := L) (n := n) hs h hg
    rw [if_neg (show ¬ b2i true = 0 by decide), gr_163_0 hs, Option.bind_some, cv_164 hs, q1, Option.bind_some, rZ_1]
    exact ⟨I', 1, rfl, by rw [if_pos rfl]; exact ⟨rfl, q2⟩, q3.q⟩
theorem c_goDeeper (hs : St S R) {t : TKN} {l : List Nat} {I : mkI} (h : PsC (Ls, xs, S, R) B w t l I) (hg : TKg B.1 B.2 t) (hl : l.length ≤ 900) {d : Nat} (hd : d ≤ 6) : ∃ I' v, F_X7_goDeeper (some 163) (nI d) (mk S I L R n) = some (v, mk S I' L R n) ∧ (if d < 6 then v = 1 ∧ PsC (Ls, xs, S, R) B w (nx B t) l I' else v = 0 ∧ FlC (rf t 4) I') ∧ kQ I I' := by
  unfold F_X7_goDeeper
  by_cases e : d < 6
  · obtain ⟨I', q1, q2, q3⟩ := c_adv (L := L) (n := n) hs h hg
    rw [if_pos (show nI d < 6 from nI_lt (b := 6) e (by omega)), gr_163_0 hs, Option.bind_some, cv_164 hs, q1, Option.bind_some, rZ_1]
    exact ⟨I', 1, rfl, by rw [if_pos e]; exact ⟨rfl, q2⟩, q3.q⟩
  · obtain ⟨I', q1, q2, q3⟩ := c_refuse (L := L) (n := n) hs h hg hl 4
    rw [if_neg (show ¬ nI d < 6 from nI_nlt (b := 6) (by omega) (by omega)), cv_163 hs, show F_X7_refuse (some 163) 4 (mk S I L R n) = _ from q1, b2_some, rZ_0]
    exact ⟨I', 0, rfl, by rw [if_neg e]; exact ⟨rfl, q2⟩, q3⟩
theorem c_word (hs : St S R) {t : TKN} {l : List Nat} {I : mkI} (h : PsC (Ls, xs, S, R) B w t l I) (hg : TKg B.1 B.2 t) {a : Nat} (ha : a < 51) : F_X9_isWord (some 164) (some a) (mk S I L R n) = some (b2i (wB B.1 t (wsOf a)), mk S I L R n) := c_isWord hs h.1 h.2.1 hg h.2.2.1 ha
theorem c_var (hs : St S R) (hw : w ≤ 2) {t : TKN} {l : List Nat} {I : mkI} (h : PsC (Ls, xs, S, R) B w t l I) (hg : TKg B.1 B.2 t) : (if w = 1 then F_X7_variableOfLikes (some 163) (mk S I L R n) else F_X7_variableOfCalls (some 163) (mk S I L R n)) = some ((match vrB B.1 w t with
  | some v => nI v
  | none => -1), mk S I L R n) := by
  have W := fun {a : Nat} (ha : a < 51) => c_word (L := L) (n := n) hs h hg ha
  have w11 := W (a := 11) (by decide)
  have w12 := W (a := 12) (by decide)
  have w13 := W (a := 13) (by decide)
  have w6 := W (a := 6) (by decide)
  have w14 := W (a := 14) (by decide)
  have w5 := W (a := 5) (by decide)
  have w15 := W (a := 15) (by decide)
  have w16 := W (a := 16) (by decide)
  unfold vrB
  by_cases e1 : w = 1
  · rw [if_pos e1, if_pos e1]
    unfold F_X7_variableOfLikes F_X7_variableOfLikes_31
    rw [gr_163_0 hs, Option.bind_some, cv_164 hs, w11, b2_some]
    cases wB B.1 t (wsOf 11) with
    | true => rfl
    | false =>
      rw [if_pos (show b2i false = 0 from rfl), gr_163_0 hs, Option.bind_some, cv_164 hs, w12, b2_some]
      cases wB B.1 t (wsOf 12) <;> rfl
  · rw [if_neg e1, if_neg e1]
    unfold F_X7_variableOfCalls F_X7_variableOfCalls_78 F_X7_variableOfCalls_102 F_X7_variableOfCalls_103
    rw [gr_163_0 hs, Option.bind_some, cv_164 hs, w13, b2_some]
    cases wB B.1 t (wsOf 13) with
    | true => rfl
    | false =>
      rw [if_pos (show b2i false = 0 from rfl), gr_163_0 hs, Option.bind_some, cv_164 hs, w6, b2_some]
      cases wB B.1 t (wsOf 6) with
      | true => rfl
      | false =>
        rw [if_pos (show b2i false = 0 from rfl), gr_163_0 hs, Option.bind_some, cv_164 hs, w14, b2_some]
        cases wB B.1 t (wsOf 14) with
        | true => rfl
        | false =>
          rw [if_pos (show b2i false = 0 from rfl), gr_163_0 hs, Option.bind_some, cv_164 hs, w5, b2_some]
          cases wB B.1 t (wsOf 5) with
          | true => rfl
          | false =>
            have e2 : (nI w = 2) = (w = 2) := propext (nI_eq (b := 2) (by omega) (by omega))
            rw [if_pos (show b2i false = 0 from rfl), gi_163_12 hs, Option.bind_some, h.2.2.2.1.1]
            simp only [e2, Option.bind_some, gi_163_12 hs, h.2.2.2.1.1]
            by_cases e3 : w = 2
            · rw [if_pos e3, if_pos e3, gr_163_0 hs, Option.bind_some, cv_164 hs, w15, b2_some]
              cases wB B.1 t (wsOf 15) with
              | true => rfl
              | false =>
                rw [if_pos (show b2i false = 0 from rfl), gi_163_12 hs, Option.bind_some, h.2.2.2.1.1, if_pos (show nI w = 2 by rw [e3]; rfl), gr_163_0 hs, Option.bind_some, cv_164 hs, w16, b2_some]
                cases wB B.1 t (wsOf 16) <;> rfl
            · rw [if_neg e3, if_neg e3, if_neg e3]
              rfl
end CL
