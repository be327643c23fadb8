/-! lines of a text: what both readers find; the class's takers -/
abbrev NR : Type := (Nat × Nat) ⊕ (TKN × Nat)
/-- a number within bounds, unlike another -/
def numP (B : BT) (lo hi : Nat) (un : Int32) (t : TKN) : NR := if t.2.2 = 3 then (if (lo ≤ nmV B.1 t ∧ nmV B.1 t ≤ hi) ∧ nI (nmV B.1 t) ≠ un then .inr (nx B t, nmV B.1 t) else .inl (rf t 3)) else .inl (rf t 2)
def NRo (B : BT) (s : Nat) (r : NR) : Prop := match r with
  | .inl e => 1 ≤ e.1 ∧ e.1 ≤ 4
  | .inr (t, _) => TKg B.1 B.2 t ∧ s + 1 ≤ t.1
theorem numP_ok {B : BT} {lo hi : Nat} {un : Int32} {t : TKN} (ht : TKg B.1 B.2 t) : NRo B t.1 (numP B lo hi un t) := by
  unfold numP
  by_cases e : t.2.2 = 3
  · rw [if_pos e]
    by_cases e2 : (lo ≤ nmV B.1 t ∧ nmV B.1 t ≤ hi) ∧ nI (nmV B.1 t) ≠ un
    · rw [if_pos e2]
      exact ⟨(nx_g ht).1, nx_1 ht (by omega)⟩
    · rw [if_neg e2]
      exact rf_ok (by omega)
  · rw [if_neg e]
    exact rf_ok (by omega)
section PL
variable {Ls : Nat} {xs : Nat → Int32} {S : mkS} {L : mkL} {R : mkR} {n : Nat × Nat} {B : BT} {w : Nat}
theorem c_takeWord (hs : St S R) {t : TKN} {l : List Nat} {I : mkI} (h : PsC (Ls, xs, S, R) B w t l I) (hg : TKg B.1 B.2 t) (hl : l.length ≤ 900) {a : Nat} (ha : a < 51) : ∃ I' v, F_X7_takeWord (some 163) (some a) (mk S I L R n) = some (v, mk S I' L R n) ∧ (if wB B.1 t (wsOf a) = true then v = 1 ∧ PsC (Ls, xs, S, R) B w (nx B t) l I' else v = 0 ∧ FlC (rf t 2) I') ∧ kQ I I' := by
  unfold F_X7_takeWord
  rw [gr_163_0 hs, Option.bind_some, cv_164 hs, c_word hs h hg ha, b2_some, cv_163 hs]
  cases e : wB B.1 t (wsOf a) with
  | false =>
    obtain ⟨I', q1, q2, q3⟩ := c_refuse (L := L) (n := n) hs h hg hl 2
    rw [if_pos (show b2i false = 0 from rfl), show F_X7_refuse (some 163) 2 (mk S I L R n) = _ from q1, b2_some, rZ_0]
    exact ⟨I', 0, rfl, by rw [if_neg Bool.false_ne_true]; exact ⟨rfl, q2⟩, q3⟩
  | true =>
    obtain ⟨I', q1, q2, q3⟩ := c_adv (L := L) (n := n) hs h hg
    rw [if_neg (show ¬ b2i true = 0 by decide), gr_163_0 hs, Option.bind_some, cv_164 hs, q1, Option.bind_some, rZ_1]
    exact ⟨I', 1, rfl, by rw [if_pos rfl]; exact ⟨rfl, q2⟩, q3.q⟩
def NO (Z : CX0) (B : BT) (w : Nat) (l : List Nat) (r : NR) (v : Int32) (I' : mkI) : Prop := match r with
  | .inl e => v = -1 ∧ FlC e I'
  | .inr (t', x) => v = nI x ∧ x < 1000 ∧ PsC Z B w t' l I'
theorem c_takeNumber (hs : St S R) {t : TKN} {l : List Nat} {I : mkI} (h : PsC (Ls, xs, S, R) B w t l I) (hg : TKg B.1 B.2 t) (hl : l.length ≤ 900) {lo hi : Nat} (hlo : lo < 100000) (hhi : hi < 100000) (un : Int32) : ∃ I' v, F_X7_takeNumber (some 163) (nI lo) (nI hi) un (mk S I L R n) = some (v, mk S I' L R n) ∧ NO (Ls, xs, S, R) B w l (numP B lo hi un t) v I' ∧ kQ I I' := by
  have bad : ∃ I', F_X7_takeNumber_45 (some 163) (mk S I L R n) = some (-1, mk S I' L R n) ∧ FlC (rf t 3) I' ∧ kQ I I' := by
    obtain ⟨I', q1, q2, q3⟩ := c_refuse (L := L) (n := n) hs h hg hl 3
    unfold F_X7_takeNumber_45
    rw [cv_163 hs, show F_X7_refuse (some 163) 3 (mk S I L R n) = _ from q1, b2_some]
    exact ⟨I', rfl, q2, q3⟩
  unfold F_X7_takeNumber numP
  rw [gr_163_0 hs, Option.bind_some, cv_164 hs, c_isNumber hs hg h.2.2.1, b2_some]
  by_cases e : t.2.2 = 3
  · have hv := nmV_lt hg e
    rw [decide_eq_true e, if_neg (show ¬ b2i true = 0 by decide), if_pos e, gr_163_0 hs, Option.bind_some, cv_164 hs, c_tnum hs h.2.1 hg h.2.2.1 e, b2_some]
    by_cases e1 : lo ≤ nmV B.1 t
    · rw [if_neg (nI_nlt e1 (by omega))]
      by_cases e2 : nmV B.1 t ≤ hi
      · rw [if_neg (nI_nlt e2 (by omega))]
        by_cases e3 : nI (nmV B.1 t) = un
        · obtain ⟨I', q1, q2, q3⟩ := bad
          rw [if_pos e3, if_neg (fun z => z.2 e3), q1]
          exact ⟨I', _, rfl, ⟨rfl, q2⟩, q3⟩
        · obtain ⟨I', q1, q2, q3⟩ := c_adv (L := L) (n := n) hs h hg
          rw [if_neg e3, if_pos ⟨⟨e1, e2⟩, e3⟩, gr_163_0 hs, Option.bind_some, cv_164 hs, q1, Option.bind_some]
          exact ⟨I', _, rfl, ⟨rfl, hv, q2⟩, q3.q⟩
      · obtain ⟨I', q1, q2, q3⟩ := bad
        rw [if_pos (nI_lt (by omega) (by omega)), if_neg (fun z => e2 z.1.2), q1]
        exact ⟨I', _, rfl, ⟨rfl, q2⟩, q3⟩
    · obtain ⟨I', q1, q2, q3⟩ := bad
      rw [if_pos (nI_lt (by omega) (by omega)), if_neg (fun z => e1 z.1.1), q1]
      exact ⟨I', _, rfl, ⟨rfl, q2⟩, q3⟩
  · obtain ⟨I', q1, q2, q3⟩ := c_refuse (L := L) (n := n) hs h hg hl 2
    rw [decide_eq_false e, if_pos (show b2i false = 0 from rfl), if_neg e, cv_163 hs, show F_X7_refuse (some 163) 2 (mk S I L R n) = _ from q1, b2_some]
    exact ⟨I', _, rfl, ⟨rfl, q2⟩, q3⟩
end PL
