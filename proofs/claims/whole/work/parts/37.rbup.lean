/-! what is written on both boards -/
theorem rb_st {C : Nat} {f K : Nat → Int32} (h : RBoard C f K) {c : Nat} (hc : c < C) (x : Int32) : RBoard C (up1 f (15 + 7 * c) x) (up1 K (8 + c) x) := by
  obtain ⟨b1, b2, b3, b4, b5, b6, b7⟩ := h
  refine ⟨b1, by rw [up1_ne _ _ (by omega)]; exact b2, by rw [up1_ne _ _ (by omega), up1_ne _ _ (by omega)]; exact b3, by rw [up1_ne _ _ (by omega), up1_ne _ _ (by omega)]; exact b4, by rw [up1_ne _ _ (by omega), up1_ne _ _ (by omega)]; exact b5, fun l hl => by rw [up1_ne _ _ (by omega), up1_ne _ _ (by omega)]; exact b6 l hl, fun d hd => ?_⟩
  obtain ⟨q1, q2, q3, q4, q5, q6, q7⟩ := b7 d hd
  refine ⟨by rw [up1_ne _ _ (by omega), up1_ne _ _ (by omega)]; exact q1, by rw [up1_ne _ _ (by omega), up1_ne _ _ (by omega)]; exact q2, by rw [up1_ne _ _ (by omega), up1_ne _ _ (by omega)]; exact q3, by rw [up1_ne _ _ (by omega), up1_ne _ _ (by omega)]; exact q4, ?_, by rw [up1_ne _ _ (by omega), up1_ne _ _ (by omega)]; exact q6, by rw [up1_ne _ _ (by omega), up1_ne _ _ (by omega)]; exact q7⟩
  by_cases e : d = c
  · subst e; rw [up1_self, up1_self]
  · rw [up1_ne _ _ (by omega), up1_ne _ _ (by omega)]; exact q5
theorem rb_ca {C : Nat} {f K : Nat → Int32} (h : RBoard C f K) {c : Nat} (hc : c < C) (x : Int32) : RBoard C (up1 f (16 + 7 * c) x) (up1 K (18 + c) x) := by
  obtain ⟨b1, b2, b3, b4, b5, b6, b7⟩ := h
  refine ⟨b1, by rw [up1_ne _ _ (by omega)]; exact b2, by rw [up1_ne _ _ (by omega), up1_ne _ _ (by omega)]; exact b3, by rw [up1_ne _ _ (by omega), up1_ne _ _ (by omega)]; exact b4, by rw [up1_ne _ _ (by omega), up1_ne _ _ (by omega)]; exact b5, fun l hl => by rw [up1_ne _ _ (by omega), up1_ne _ _ (by omega)]; exact b6 l hl, fun d hd => ?_⟩
  obtain ⟨q1, q2, q3, q4, q5, q6, q7⟩ := b7 d hd
  refine ⟨by rw [up1_ne _ _ (by omega), up1_ne _ _ (by omega)]; exact q1, by rw [up1_ne _ _ (by omega), up1_ne _ _ (by omega)]; exact q2, by rw [up1_ne _ _ (by omega), up1_ne _ _ (by omega)]; exact q3, by rw [up1_ne _ _ (by omega), up1_ne _ _ (by omega)]; exact q4, by rw [up1_ne _ _ (by omega), up1_ne _ _ (by omega)]; exact q5, ?_, by rw [up1_ne _ _ (by omega), up1_ne _ _ (by omega)]; exact q7⟩
  by_cases e : d = c
  · subst e; rw [up1_self, up1_self]
  · rw [up1_ne _ _ (by omega), up1_ne _ _ (by omega)]; exact q6
theorem rb_co {C : Nat} {f K : Nat → Int32} (h : RBoard C f K) {c : Nat} (hc : c < C) (x : Int32) : RBoard C (up1 f (17 + 7 * c) x) (up1 K (28 + c) x) := by
  obtain ⟨b1, b2, b3, b4, b5, b6, b7⟩ := h
  refine ⟨b1, by rw [up1_ne _ _ (by omega)]; exact b2, by rw [up1_ne _ _ (by omega), up1_ne _ _ (by omega)]; exact b3, by rw [up1_ne _ _ (by omega), up1_ne _ _ (by omega)]; exact b4, by rw [up1_ne _ _ (by omega), up1_ne _ _ (by omega)]; exact b5, fun l hl => by rw [up1_ne _ _ (by omega), up1_ne _ _ (by omega)]; exact b6 l hl, fun d hd => ?_⟩
  obtain ⟨q1, q2, q3, q4, q5, q6, q7⟩ := b7 d hd
  refine ⟨by rw [up1_ne _ _ (by omega), up1_ne _ _ (by omega)]; exact q1, by rw [up1_ne _ _ (by omega), up1_ne _ _ (by omega)]; exact q2, by rw [up1_ne _ _ (by omega), up1_ne _ _ (by omega)]; exact q3, by rw [up1_ne _ _ (by omega), up1_ne _ _ (by omega)]; exact q4, by rw [up1_ne _ _ (by omega), up1_ne _ _ (by omega)]; exact q5, by rw [up1_ne _ _ (by omega), up1_ne _ _ (by omega)]; exact q6, ?_⟩
  by_cases e : d = c
  · subst e; rw [up1_self, up1_self]
  · rw [up1_ne _ _ (by omega), up1_ne _ _ (by omega)]; exact q7
theorem rb_sp {C : Nat} {f K : Nat → Int32} (h : RBoard C f K) {l : Nat} (hl : l < 8) (x : Int32) : RBoard C (up1 f (3 + l) x) (up1 K (38 + l) x) := by
  obtain ⟨b1, b2, b3, b4, b5, b6, b7⟩ := h
  refine ⟨b1, by rw [up1_ne _ _ (by omega)]; exact b2, by rw [up1_ne _ _ (by omega), up1_ne _ _ (by omega)]; exact b3, by rw [up1_ne _ _ (by omega), up1_ne _ _ (by omega)]; exact b4, by rw [up1_ne _ _ (by omega), up1_ne _ _ (by omega)]; exact b5, fun d hd => ?_, fun d hd => ?_⟩
  · by_cases e : d = l
    · subst e; rw [up1_self, up1_self]
    · rw [up1_ne _ _ (by omega), up1_ne _ _ (by omega)]; exact b6 d hd
  · obtain ⟨q1, q2, q3, q4, q5, q6, q7⟩ := b7 d hd
    refine ⟨by rw [up1_ne _ _ (by omega), up1_ne _ _ (by omega)]; exact q1, by rw [up1_ne _ _ (by omega), up1_ne _ _ (by omega)]; exact q2, by rw [up1_ne _ _ (by omega), up1_ne _ _ (by omega)]; exact q3, by rw [up1_ne _ _ (by omega), up1_ne _ _ (by omega)]; exact q4, by rw [up1_ne _ _ (by omega), up1_ne _ _ (by omega)]; exact q5, by rw [up1_ne _ _ (by omega), up1_ne _ _ (by omega)]; exact q6, by rw [up1_ne _ _ (by omega), up1_ne _ _ (by omega)]; exact q7⟩
theorem rb_mi {C : Nat} {f K : Nat → Int32} (h : RBoard C f K) (x : Int32) : RBoard C (up1 f 0 x) (up1 K 47 x) := by
  obtain ⟨b1, b2, b3, b4, b5, b6, b7⟩ := h
  refine ⟨b1, by rw [up1_ne _ _ (by omega)]; exact b2, by rw [up1_self, up1_self], by rw [up1_ne _ _ (by omega), up1_ne _ _ (by omega)]; exact b4, by rw [up1_ne _ _ (by omega), up1_ne _ _ (by omega)]; exact b5, fun d hd => by rw [up1_ne _ _ (by omega), up1_ne _ _ (by omega)]; exact b6 d hd, fun d hd => ?_⟩
  obtain ⟨q1, q2, q3, q4, q5, q6, q7⟩ := b7 d hd
  exact ⟨by rw [up1_ne _ _ (by omega), up1_ne _ _ (by omega)]; exact q1, by rw [up1_ne _ _ (by omega), up1_ne _ _ (by omega)]; exact q2, by rw [up1_ne _ _ (by omega), up1_ne _ _ (by omega)]; exact q3, by rw [up1_ne _ _ (by omega), up1_ne _ _ (by omega)]; exact q4, by rw [up1_ne _ _ (by omega), up1_ne _ _ (by omega)]; exact q5, by rw [up1_ne _ _ (by omega), up1_ne _ _ (by omega)]; exact q6, by rw [up1_ne _ _ (by omega), up1_ne _ _ (by omega)]; exact q7⟩
/-- a call's beginning -/
def aCame (P : PL) (frc : Nat → Int32) (f : Nat → Int32) (c : Nat) : Int32 := if frc c = -1 then aComes P (f (11 + 7 * c)) (f (12 + 7 * c)) (f 0) (nI c) else frc c
def aCordOf (P : PL) (C : Nat) (f : Nat → Int32) (fr came : Int32) : Int32 := if came = fr then -1 else if hasB (f 2) fr = true then -1 else if hasB (f 2) came = true then -1 else if aBusy C f fr = -1 then (if aBusy C f came = -1 then aFree P C f fr came else -1) else -1
def aPut (P : PL) (f : Nat → Int32) (c : Nat) (fr came cord : Int32) : Nat → Int32 :=
  if cord = -1 then up1 f (15 + 7 * c) 3
  else if came ≠ f (12 + 7 * c) ∧ f (3 + fr.toNatClampNeg) = -1 ∧ f (3 + came.toNatClampNeg) = -1 ∧ aWed P fr came (f 0) (nI c) = true then up1 (up1 (up1 (up1 (up1 f (15 + 7 * c) 1) (16 + 7 * c) came) (17 + 7 * c) cord) (3 + fr.toNatClampNeg) came) (3 + came.toNatClampNeg) fr
  else up1 (up1 (up1 f (15 + 7 * c) 1) (16 + 7 * c) came) (17 + 7 * c) cord
def aBegin (P : PL) (frc : Nat → Int32) (C : Nat) (f : Nat → Int32) (c : Nat) : Nat → Int32 := aPut P f c (f (11 + 7 * c)) (aCame P frc f c) (aCordOf P C f (f (11 + 7 * c)) (aCame P frc f c))
