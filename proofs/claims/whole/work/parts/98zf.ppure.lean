/-! a law's text: what both readers find -/
abbrev BT : Type := (Nat → Nat) × Nat
def nx (B : BT) (t : TKN) : TKN := lx B.1 B.2 t.2.1
def rf (t : TKN) (k : Nat) : Nat × Nat := (if t.2.2 = 1 then 1 else k, t.1)
abbrev LR : Type := (Nat × Nat) ⊕ (TKN × List Nat)
def vrB (tb : Nat → Nat) (w : Nat) (t : TKN) : Option Nat := if w = 1 then (if wB tb t (wsOf 11) = true then some 0 else if wB tb t (wsOf 12) = true then some 1 else none) else if wB tb t (wsOf 13) = true then some 0 else if wB tb t (wsOf 6) = true then some 1 else if wB tb t (wsOf 14) = true then some 2 else if wB tb t (wsOf 5) = true then some 3 else if w = 2 then (if wB tb t (wsOf 15) = true then some 4 else if wB tb t (wsOf 16) = true then some 5 else none) else none
/-- on with what follows, the codes behind those before -/
def thn (r : LR) (f : TKN → List Nat → LR) : LR := match r with
  | .inl e => .inl e
  | .inr (t, l) => f t l
def atomP (B : BT) (w : Nat) (sub : TKN → LR) (t : TKN) : LR := if sgB B.1 t 40 = true then sub t else if t.2.2 = 3 then .inr (nx B t, [nmV B.1 t]) else match vrB B.1 w t with
  | some v => .inr (nx B t, [1000 + v])
  | none => .inl (rf t 2)
def mulL (B : BT) (w : Nat) (sub : TKN → LR) : Nat → TKN → List Nat → LR
  | 0, t, l => .inr (t, l)
  | r + 1, t, l => if sgB B.1 t 42 = true then thn (atomP B w sub (nx B t)) (fun t' l' => mulL B w sub r t' (l ++ l' ++ [2002])) else .inr (t, l)
def termP (B : BT) (w : Nat) (sub : TKN → LR) (t : TKN) : LR := thn (atomP B w sub t) (fun t' l' => mulL B w sub 900 t' l')
def addL (B : BT) (w : Nat) (sub : TKN → LR) : Nat → TKN → List Nat → LR
  | 0, t, l => .inr (t, l)
  | r + 1, t, l => if sgB B.1 t 43 = true ∨ sgB B.1 t 45 = true then thn (termP B w sub (nx B t)) (fun t' l' => addL B w sub r t' (l ++ l' ++ [if sgB B.1 t 43 = true then 2000 else 2001])) else .inr (t, l)
def sumG (B : BT) (w : Nat) (sub : TKN → LR) (t : TKN) : LR := thn (termP B w sub t) (fun t' l' => addL B w sub 900 t' l')
def par (B : BT) (c : Nat) (f : TKN → LR) (t : TKN) : LR := thn (f (nx B t)) (fun t' l => if sgB B.1 t' c = true then .inr (nx B t', l) else .inl (rf t' 2))
def sumP (B : BT) (w : Nat) : Nat → TKN → LR
  | 0 => sumG B w (fun t => .inl (rf t 4))
  | r + 1 => sumG B w (par B 41 (sumP B w r))
def relB (tb : Nat → Nat) (t : TKN) : Option Nat := if sgB tb t 61 = true then some 2003 else if sgB tb t 60 = true then some 2004 else if sgB tb t 62 = true then some 2005 else none
def unitG (B : BT) (nt br sm : TKN → LR) (t : TKN) : LR := if wB B.1 t (wsOf 10) = true then nt t else if sgB B.1 t 91 = true then br t else thn (sm t) (fun t' l => match relB B.1 t' with
  | none => .inl (rf t' 2)
  | some o => thn (sm (nx B t')) (fun t'' l' => .inr (t'', l ++ l' ++ [o])))
def andL (B : BT) (u : TKN → LR) : Nat → TKN → List Nat → LR
  | 0, t, l => .inr (t, l)
  | r + 1, t, l => if wB B.1 t (wsOf 17) = true then thn (u (nx B t)) (fun t' l' => andL B u r t' (l ++ l' ++ [2006])) else .inr (t, l)
def bothG (B : BT) (u : TKN → LR) (t : TKN) : LR := thn (u t) (fun t' l' => andL B u 900 t' l')
def orL (B : BT) (u : TKN → LR) : Nat → TKN → List Nat → LR
  | 0, t, l => .inr (t, l)
  | r + 1, t, l => if wB B.1 t (wsOf 18) = true then thn (bothG B u (nx B t)) (fun t' l' => orL B u r t' (l ++ l' ++ [2007])) else .inr (t, l)
def truthG (B : BT) (u : TKN → LR) (t : TKN) : LR := thn (bothG B u t) (fun t' l' => orL B u 900 t' l')
def unitP (B : BT) : Nat → TKN → LR
  | 0 => unitG B (fun t => .inl (rf t 4)) (fun t => .inl (rf t 4)) (sumP B 2 0)
  | r + 1 => unitG B (fun t => thn (unitP B r (nx B t)) (fun t' l => .inr (t', l ++ [2008]))) (par B 93 (truthG B (unitP B r))) (sumP B 2 (r + 1))
/-! what they find is a law -/
def mwV (w : Nat) : Nat := if w = 1 then 2 else if w = 2 then 6 else 4
def RGo (B : BT) (w : Nat) (b : Bool) (c : Nat) (s : Nat) (r : LR) : Prop := match r with
  | .inl e => 1 ≤ e.1 ∧ e.1 ≤ 4
  | .inr (t', l) => TKg B.1 B.2 t' ∧ s + l.length ≤ t'.1 ∧ 1 ≤ l.length ∧ usesV (mwV w) l ∧ ∀ ops ts, ts.length + c < 26 → tys (l ++ ops) ts = tys ops (b :: ts)
theorem rf_ok {t : TKN} {k : Nat} (h : 1 ≤ k ∧ k ≤ 4) : 1 ≤ (rf t k).1 ∧ (rf t k).1 ≤ 4 := by
  show 1 ≤ (if t.2.2 = 1 then 1 else k) ∧ (if t.2.2 = 1 then 1 else k) ≤ 4
  split <;> omega
theorem RGo.bad {B : BT} {w : Nat} {b : Bool} {c s : Nat} {t : TKN} {k : Nat} (h : 1 ≤ k ∧ k ≤ 4) : RGo B w b c s (.inl (rf t k)) := rf_ok h
theorem nx_g {B : BT} {t : TKN} (h : TKg B.1 B.2 t) : TKg B.1 B.2 (nx B t) ∧ t.2.1 ≤ (nx B t).1 := lx_g h.1.2.1
theorem nx_1 {B : BT} {t : TKN} (h : TKg B.1 B.2 t) (hk : t.2.2 ≠ 0) : t.1 + 1 ≤ (nx B t).1 := by
  have := (nx_g h).2
  have := h.1.2.2.2.2 hk
  omega
theorem sgB_k {tb : Nat → Nat} {t : TKN} {c : Nat} (h : sgB tb t c = true) : t.2.2 ≠ 0 := by
  unfold sgB at h
  rw [Bool.and_eq_true, decide_eq_true_eq] at h
  omega
theorem wB_k {tb : Nat → Nat} {t : TKN} {ws : List Nat} (h : wB tb t ws = true) : t.2.2 = 2 := by
  unfold wB at h
  rw [Bool.and_eq_true, decide_eq_true_eq] at h
  exact h.1
theorem vrB_k {tb : Nat → Nat} {w v : Nat} {t : TKN} (h : vrB tb w t = some v) : t.2.2 = 2 ∧ v < mwV w := by
  unfold vrB at h
  unfold mwV
  by_cases e1 : w = 1
  · rw [if_pos e1] at h
    rw [if_pos e1]
    split at h
    · rename_i q; cases h; exact ⟨wB_k q, by decide⟩
    · split at h
      · rename_i q; cases h; exact ⟨wB_k q, by decide⟩
      · cases h
  · rw [if_neg e1] at h
    rw [if_neg e1]
    have h4 : (0 : Nat) < if w = 2 then 6 else 4 := by split <;> decide
    have h3 : (3 : Nat) < if w = 2 then 6 else 4 := by split <;> decide
    split at h
    · rename_i q; cases h; exact ⟨wB_k q, h4⟩
    · split at h
      · rename_i q; cases h; exact ⟨wB_k q, by omega⟩
      · split at h
        · rename_i q; cases h; exact ⟨wB_k q, by omega⟩
        · split at h
          · rename_i q; cases h; exact ⟨wB_k q, h3⟩
          · split at h
            · rename_i e2
              rw [if_pos e2]
              split at h
              · rename_i q; cases h; exact ⟨wB_k q, by decide⟩
              · split at h
                · rename_i q; cases h; exact ⟨wB_k q, by decide⟩
                · cases h
            · cases h
theorem usesV_app {m : Nat} {a b : List Nat} (h : usesV m a) (h2 : usesV m b) : usesV m (a ++ b) := fun o ho => (List.mem_append.mp ho).elim (h o) (h2 o)
theorem usesV_1 {m o : Nat} (h : o < 1000 + m ∨ 2000 ≤ o) : usesV m [o] := fun p hp => by rw [List.mem_singleton.mp hp]; exact h
theorem RGo.thn {B : BT} {w : Nat} {b b' : Bool} {c c' s s' : Nat} {r : LR} {f : TKN → List Nat → LR} (h : RGo B w b c s r) (k : ∀ t l, RGo B w b c s (.inr (t, l)) → RGo B w b' c' s' (f t l)) : RGo B w b' c' s' (thn r f) := by
  cases r with
  | inl e => exact h
  | inr p => exact k p.1 p.2 h
/-- two, and what joins them -/
theorem RGo.two {B : BT} {w : Nat} {b1 b : Bool} {c c' s s' o : Nat} {t t' : TKN} {l l' : List Nat} (h1 : RGo B w b1 c s (.inr (t, l))) (hs : t.1 + 1 ≤ s') (h2 : RGo B w b1 c' s' (.inr (t', l'))) (hc : c ≤ c' + 1) (ho : 2000 ≤ o) (hj : ∀ ts, tst o (b1 :: b1 :: ts) = some (b :: ts)) : RGo B w b (c' + 1) s (.inr (t', l ++ l' ++ [o])) := by
  obtain ⟨a1, a2, a3, a4, a5⟩ := h1
  obtain ⟨d1, d2, d3, d4, d5⟩ := h2
  refine ⟨d1, by rw [List.length_append, List.length_append]; show s + (l.length + l'.length + 1) ≤ t'.1; omega, by rw [List.length_append, List.length_append]; omega, usesV_app (usesV_app a4 d4) (usesV_1 (.inr ho)), fun ops ts hts => ?_⟩
  rw [List.append_assoc, List.append_assoc, a5 _ _ (by omega), d5 _ _ (by rw [List.length_cons]; omega)]
  show (tst o (b1 :: b1 :: ts)).bind (tys ops) = _
  rw [hj ts]
  rfl
theorem RGo.mono {B : BT} {w : Nat} {b : Bool} {c c' s : Nat} {r : LR} (h : RGo B w b c s r) (hc : c ≤ c') : RGo B w b c' s r := by
  cases r with
  | inl e => exact h
  | inr p => exact ⟨h.1, h.2.1, h.2.2.1, h.2.2.2.1, fun ops ts q => h.2.2.2.2 ops ts (by omega)⟩
theorem atomP_ok {B : BT} {w : Nat} {sub : TKN → LR} {c : Nat} (hsub : ∀ t, TKg B.1 B.2 t → sgB B.1 t 40 = true → RGo B w false c t.1 (sub t)) {t : TKN} (ht : TKg B.1 B.2 t) : RGo B w false c t.1 (atomP B w sub t) := by
  have one : ∀ o, o < 1006 → (o < 1000 + mwV w ∨ 2000 ≤ o) → t.2.2 ≠ 0 → RGo B w false c t.1 (.inr (nx B t, [o])) := fun o h1 h2 hk => by
    refine ⟨(nx_g ht).1, nx_1 ht hk, Nat.le_refl _, usesV_1 h2, fun ops ts hts => ?_⟩
    show (tst o ts).bind (tys ops) = _
    unfold tst
    rw [if_pos h1, if_pos (by omega)]
    rfl
  unfold atomP
  by_cases e1 : sgB B.1 t 40 = true
  · rw [if_pos e1]; exact hsub t ht e1
  · rw [if_neg e1]
    by_cases e2 : t.2.2 = 3
    · rw [if_pos e2]
      have := nmV_lt ht e2
      exact one _ (by omega) (.inl (by omega)) (by omega)
    · rw [if_neg e2]
      cases e3 : vrB B.1 w t with
      | none => exact rf_ok (by omega)
      | some v =>
        obtain ⟨k1, k2⟩ := vrB_k e3
        have : mwV w ≤ 6 := by unfold mwV; split <;> (try split) <;> omega
        exact one _ (by omega) (.inl (by omega)) (by omega)
theorem mulL_ok {B : BT} {w : Nat} {sub : TKN → LR} {c s : Nat} (hsub : ∀ t, TKg B.1 B.2 t → sgB B.1 t 40 = true → RGo B w false c t.1 (sub t)) : ∀ (r : Nat) (t : TKN) (l : List Nat), RGo B w false (c + 1) s (.inr (t, l)) → RGo B w false (c + 1) s (mulL B w sub r t l)
  | 0, _, _, h => h
  | r + 1, t, l, h => by
    rw [mulL]
    by_cases e : sgB B.1 t 42 = true
    · rw [if_pos e]
      have hn := nx_g h.1
      refine (atomP_ok hsub hn.1).thn (fun t' l' h' => mulL_ok hsub r t' _ (h.two (nx_1 h.1 (sgB_k e)) h' (Nat.le_refl _) (by decide) (fun ts => rfl)))
    · rw [if_neg e]; exact h
theorem termP_ok {B : BT} {w : Nat} {sub : TKN → LR} {c : Nat} (hsub : ∀ t, TKg B.1 B.2 t → sgB B.1 t 40 = true → RGo B w false c t.1 (sub t)) {t : TKN} (ht : TKg B.1 B.2 t) : RGo B w false (c + 1) t.1 (termP B w sub t) :=
  (atomP_ok hsub ht).thn (fun t' l' h => mulL_ok hsub 900 t' l' (h.mono (Nat.le_succ _)))
theorem addL_ok {B : BT} {w : Nat} {sub : TKN → LR} {c s : Nat} (hsub : ∀ t, TKg B.1 B.2 t → sgB B.1 t 40 = true → RGo B w false c t.1 (sub t)) : ∀ (r : Nat) (t : TKN) (l : List Nat), RGo B w false (c + 2) s (.inr (t, l)) → RGo B w false (c + 2) s (addL B w sub r t l)
  | 0, _, _, h => h
  | r + 1, t, l, h => by
    rw [addL]
    by_cases e : sgB B.1 t 43 = true ∨ sgB B.1 t 45 = true
    · rw [if_pos e]
      have hn := nx_g h.1
      refine (termP_ok hsub hn.1).thn (fun t' l' h' => addL_ok hsub r t' _ (h.two (nx_1 h.1 (e.elim sgB_k sgB_k)) h' (Nat.le_refl _) (by split <;> decide) (fun ts => by split <;> rfl)))
    · rw [if_neg e]; exact h
theorem sumG_ok {B : BT} {w : Nat} {sub : TKN → LR} {c : Nat} (hsub : ∀ t, TKg B.1 B.2 t → sgB B.1 t 40 = true → RGo B w false c t.1 (sub t)) {t : TKN} (ht : TKg B.1 B.2 t) : RGo B w false (c + 2) t.1 (sumG B w sub t) :=
  (termP_ok hsub ht).thn (fun t' l' h => addL_ok hsub 900 t' l' (h.mono (Nat.le_succ _)))
theorem par_ok {B : BT} {w : Nat} {b : Bool} {f : TKN → LR} {c d : Nat} (hf : ∀ t, TKg B.1 B.2 t → RGo B w b c t.1 (f t)) {t : TKN} (ht : TKg B.1 B.2 t) (hk : t.2.2 ≠ 0) : RGo B w b c t.1 (par B d f t) := by
  have hn := nx_g ht
  refine (hf _ hn.1).thn (fun t' l h => ?_)
  by_cases e : sgB B.1 t' d = true
  · rw [if_pos e]
    obtain ⟨a1, a2, a3⟩ := h
    exact ⟨(nx_g a1).1, by have := nx_1 ht hk; have := nx_1 a1 (sgB_k e); omega, a3⟩
  · rw [if_neg e]; exact rf_ok (by omega)
theorem sumP_ok {B : BT} {w : Nat} : ∀ (r : Nat) (t : TKN), TKg B.1 B.2 t → RGo B w false (2 * r + 2) t.1 (sumP B w r t)
  | 0, t, ht => by
    unfold sumP
    exact sumG_ok (c := 0) (fun t _ _ => RGo.bad (by omega)) ht
  | r + 1, t, ht => sumG_ok (c := 2 * r + 2) (fun t ht hk => par_ok (sumP_ok r) ht (sgB_k hk)) ht
theorem unitG_ok {B : BT} {nt br sm : TKN → LR} {c : Nat} (h1 : ∀ t, TKg B.1 B.2 t → wB B.1 t (wsOf 10) = true → RGo B 2 true (c + 1) t.1 (nt t)) (h2 : ∀ t, TKg B.1 B.2 t → sgB B.1 t 91 = true → RGo B 2 true (c + 1) t.1 (br t)) (h3 : ∀ t, TKg B.1 B.2 t → RGo B 2 false c t.1 (sm t)) {t : TKN} (ht : TKg B.1 B.2 t) : RGo B 2 true (c + 1) t.1 (unitG B nt br sm t) := by
  unfold unitG
  by_cases e1 : wB B.1 t (wsOf 10) = true
  · rw [if_pos e1]; exact h1 t ht e1
  · rw [if_neg e1]
    by_cases e2 : sgB B.1 t 91 = true
    · rw [if_pos e2]; exact h2 t ht e2
    · rw [if_neg e2]
      refine (h3 t ht).thn (fun t' l h => ?_)
      cases e3 : relB B.1 t' with
      | none => exact rf_ok (by omega)
      | some o =>
        have hk : t'.2.2 ≠ 0 ∧ 2003 ≤ o ∧ o < 2006 := by
          unfold relB at e3
          split at e3
          · rename_i q; cases e3; exact ⟨sgB_k q, by decide, by decide⟩
          · split at e3
            · rename_i q; cases e3; exact ⟨sgB_k q, by decide, by decide⟩
            · split at e3
              · rename_i q; cases e3; exact ⟨sgB_k q, by decide, by decide⟩
              · cases e3
        have hn := nx_g h.1
        refine (h3 _ hn.1).thn (fun t'' l' h' => h.two (nx_1 h.1 hk.1) h' (Nat.le_succ _) (by omega) (fun ts => ?_))
        unfold tst
        rw [if_neg (by omega), if_pos (by omega)]
        show some (decide (2003 ≤ o) :: ts) = _
        rw [decide_eq_true hk.2.1]
theorem andL_ok {B : BT} {u : TKN → LR} {c s : Nat} (hu : ∀ t, TKg B.1 B.2 t → RGo B 2 true c t.1 (u t)) : ∀ (r : Nat) (t : TKN) (l : List Nat), RGo B 2 true (c + 1) s (.inr (t, l)) → RGo B 2 true (c + 1) s (andL B u r t l)
  | 0, _, _, h => h
  | r + 1, t, l, h => by
    rw [andL]
    by_cases e : wB B.1 t (wsOf 17) = true
    · rw [if_pos e]
      have hn := nx_g h.1
      refine (hu _ hn.1).thn (fun t' l' h' => andL_ok hu r t' _ (h.two (nx_1 h.1 (by have := wB_k e; omega)) h' (Nat.le_refl _) (by decide) (fun ts => rfl)))
    · rw [if_neg e]; exact h
theorem bothG_ok {B : BT} {u : TKN → LR} {c : Nat} (hu : ∀ t, TKg B.1 B.2 t → RGo B 2 true c t.1 (u t)) {t : TKN} (ht : TKg B.1 B.2 t) : RGo B 2 true (c + 1) t.1 (bothG B u t) :=
  (hu t ht).thn (fun t' l' h => andL_ok hu 900 t' l' (h.mono (Nat.le_succ _)))
theorem orL_ok {B : BT} {u : TKN → LR} {c s : Nat} (hu : ∀ t, TKg B.1 B.2 t → RGo B 2 true c t.1 (u t)) : ∀ (r : Nat) (t : TKN) (l : List Nat), RGo B 2 true (c + 2) s (.inr (t, l)) → RGo B 2 true (c + 2) s (orL B u r t l)
  | 0, _, _, h => h
  | r + 1, t, l, h => by
    rw [orL]
    by_cases e : wB B.1 t (wsOf 18) = true
    · rw [if_pos e]
      have hn := nx_g h.1
      refine (bothG_ok hu hn.1).thn (fun t' l' h' => orL_ok hu r t' _ (h.two (nx_1 h.1 (by have := wB_k e; omega)) h' (Nat.le_refl _) (by decide) (fun ts => rfl)))
    · rw [if_neg e]; exact h
theorem truthG_ok {B : BT} {u : TKN → LR} {c : Nat} (hu : ∀ t, TKg B.1 B.2 t → RGo B 2 true c t.1 (u t)) {t : TKN} (ht : TKg B.1 B.2 t) : RGo B 2 true (c + 2) t.1 (truthG B u t) :=
  (bothG_ok hu ht).thn (fun t' l' h => orL_ok hu 900 t' l' (h.mono (Nat.le_succ _)))
theorem unitP_ok {B : BT} : ∀ (r : Nat) (t : TKN), TKg B.1 B.2 t → RGo B 2 true (2 * r + 3) t.1 (unitP B r t)
  | 0, t, ht => by
    unfold unitP
    exact unitG_ok (c := 2) (fun t _ _ => RGo.bad (by omega)) (fun t _ _ => RGo.bad (by omega)) (sumP_ok 0) ht
  | r + 1, t, ht => unitG_ok (c := 2 * r + 4) (fun t ht hk => by
      have hn := nx_g ht
      refine (unitP_ok r _ hn.1).thn (fun t' l h => ?_)
      obtain ⟨a1, a2, a3, a4, a5⟩ := h
      refine ⟨a1, by rw [List.length_append]; show t.1 + (l.length + 1) ≤ t'.1; have := nx_1 ht (by have := wB_k hk; omega); omega, by rw [List.length_append]; omega, usesV_app a4 (usesV_1 (.inr (by decide))), fun ops ts hts => ?_⟩
      rw [List.append_assoc, a5 _ _ (by omega)]
      rfl) (fun t ht hk => par_ok (c := 2 * r + 3 + 2) (fun t ht => truthG_ok (unitP_ok r) ht) ht (sgB_k hk)) (fun t ht => (sumP_ok (r + 1) t ht).mono (by omega)) ht
