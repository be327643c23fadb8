/-! what a text's draft is -/
def DG (D : DR) : Prop := (2 ≤ dW D ∧ dW D ≤ 8 ∧ dM D ≤ 999) ∧ (dK D ≤ 3 ∧ ∀ k, k < dK D → dB D k < 2 ^ dW D) ∧ (dC D ≤ 10 ∧ ∀ c, c < dC D → (dQ D c).1 < dW D ∧ (dQ D c).2.1 < dW D ∧ (dQ D c).1 ≠ (dQ D c).2.1 ∧ (dQ D c).2.2.1 ≤ 999 ∧ 1 ≤ (dQ D c).2.2.2 ∧ (dQ D c).2.2.2 ≤ 99) ∧ ∀ w, w < 3 → lawOK (decide (w = 2)) (mwV w) (dL D w)
def DGo (B : BT) (s : Nat) (r : DLR) : Prop := match r with
  | .inl e => 1 ≤ e.1 ∧ e.1 ≤ 4
  | .inr (t', D') => TKg B.1 B.2 t' ∧ s ≤ t'.1 ∧ DG D'
theorem nth_ok {B : BT} {s s' : Nat} {r : NR} {f : TKN → Nat → DLR} (h : NRo B s r) (k : ∀ t x, r = .inr (t, x) → TKg B.1 B.2 t → s + 1 ≤ t.1 → DGo B s' (f t x)) : DGo B s' (nth r f) := by
  cases r with
  | inl e => exact h
  | inr p => exact k p.1 p.2 rfl h.1 h.2
theorem wth_ok {B : BT} {a s' : Nat} {t : TKN} {f : TKN → DLR} (ht : TKg B.1 B.2 t) (k : TKg B.1 B.2 (nx B t) → t.1 + 1 ≤ (nx B t).1 → DGo B s' (f (nx B t))) : DGo B s' (wth B a t f) := by
  unfold wth
  by_cases e : wB B.1 t (wsOf a) = true
  · rw [if_pos e]
    exact k (nx_g ht).1 (nx_1 ht (by have := wB_k e; omega))
  · rw [if_neg e]
    exact rf_ok (by omega)
theorem numP_un {B : BT} {lo hi : Nat} {t t' : TKN} {x : Nat} {un : Int32} (h : numP B lo hi un t = .inr (t', x)) : nI x ≠ un := by
  unfold numP at h
  split at h
  · split at h
    · rename_i z
      cases h
      exact z.2
    · cases h
  · cases h
section DGs
variable {B : BT} {D : DR} {t : TKN}
theorem cordP_ok (hD : DG D) (ht : TKg B.1 B.2 t) (hk : t.2.2 ≠ 0) : DGo B (t.1 + 1) (cordP B D t) := by
  obtain ⟨⟨a1, a2, a3⟩, ⟨b1, b2⟩, c, d⟩ := hD
  unfold cordP
  by_cases e : dK D = 3
  · rw [if_pos e]
    exact rf_ok (by omega)
  · rw [if_neg e]
    have g1 := (nx_g ht).1
    have l1 := nx_1 ht hk
    have hok := bitsP_ok (B := B) (W := dW D) ⟨by omega, a2⟩ 900 (nx B t) 0 g1 (Nat.two_pow_pos _)
    cases e2 : bitsP B (dW D) 900 (nx B t) 0 with
    | inl q => rw [e2] at hok; exact hok
    | inr q =>
      obtain ⟨t', v⟩ := q
      rw [e2] at hok
      have h1W := Nat.two_pow_pos (dW D)
      refine ⟨hok.1, by have := hok.2.1; show t.1 + 1 ≤ t'.1; omega, ⟨a1, a2, a3⟩, ⟨by show dK D + 1 ≤ 3; omega, fun k hk => ?_⟩, c, d⟩
      have hk' : k < dK D + 1 := hk
      show (if k = dK D then (if v = 0 then 2 ^ dW D - 1 else v) else dB D k) < 2 ^ dW D
      by_cases e4 : k = dK D
      · rw [if_pos e4]
        split
        · omega
        · exact hok.2.2
      · rw [if_neg e4]; exact b2 k (by omega)
theorem minP_ok (hD : DG D) (ht : TKg B.1 B.2 t) (hk : t.2.2 ≠ 0) : DGo B (t.1 + 1) (minP B D t) := by
  obtain ⟨⟨a1, a2, a3⟩, b, c, d⟩ := hD
  have l1 := nx_1 ht hk
  exact nth_ok (numP_ok (nx_g ht).1) (fun t1 x e g l => ⟨g, by omega, ⟨a1, a2, (numP_in e).2⟩, b, c, d⟩)
theorem callP_ok (hD : DG D) (ht : TKg B.1 B.2 t) (hk : t.2.2 ≠ 0) : DGo B (t.1 + 1) (callP B D t) := by
  obtain ⟨⟨a1, a2, a3⟩, b, ⟨c1, c2⟩, d⟩ := hD
  unfold callP
  by_cases e : dC D = 10
  · rw [if_pos e]
    exact rf_ok (by omega)
  · rw [if_neg e]
    have l1 := nx_1 ht hk
    refine nth_ok (numP_ok (nx_g ht).1) (fun t1 x1 e1 g1 m1 => wth_ok g1 (fun g2 m2 => nth_ok (numP_ok g2) (fun t3 x3 e3 g3 m3 => wth_ok g3 (fun g4 m4 => nth_ok (numP_ok g4) (fun t5 x5 e5 g5 m5 => wth_ok g5 (fun g6 m6 => nth_ok (numP_ok g6) (fun t7 x7 e7 g7 m7 => ?_)))))))
    refine ⟨g7, by omega, ⟨a1, a2, a3⟩, b, ⟨by show dC D + 1 ≤ 10; omega, fun cc hc => ?_⟩, d⟩
    have hc' : cc < dC D + 1 := hc
    have i1 := numP_in e1
    have i3 := numP_in e3
    have i5 := numP_in e5
    have i7 := numP_in e7
    have u3 := numP_un e3
    have hx : x1 ≠ x3 := fun z => u3 (by rw [z])
    show ((if cc = dC D then (x1, x3, x5, x7) else dQ D cc).1 < dW D ∧ (if cc = dC D then (x1, x3, x5, x7) else dQ D cc).2.1 < dW D ∧ (if cc = dC D then (x1, x3, x5, x7) else dQ D cc).1 ≠ (if cc = dC D then (x1, x3, x5, x7) else dQ D cc).2.1 ∧ (if cc = dC D then (x1, x3, x5, x7) else dQ D cc).2.2.1 ≤ 999 ∧ 1 ≤ (if cc = dC D then (x1, x3, x5, x7) else dQ D cc).2.2.2 ∧ (if cc = dC D then (x1, x3, x5, x7) else dQ D cc).2.2.2 ≤ 99)
    by_cases e4 : cc = dC D
    · rw [if_pos e4]
      exact ⟨by show x1 < dW D; omega, by show x3 < dW D; omega, hx, i5.2, i7.1, i7.2⟩
    · rw [if_neg e4]
      exact c2 cc (by omega)
theorem lawLP_ok {w : Nat} (ht : TKg B.1 B.2 t) (hk : t.2.2 ≠ 0) : RGo B w (decide (w = 2)) 17 (t.1 + 1) (lawLP B w t) := by
  unfold lawLP
  have g1 := nx_g ht
  have l1 := nx_1 ht hk
  by_cases e : sgB B.1 (nx B t) 58 = true
  · rw [if_pos e]
    have l2 := nx_1 g1.1 (sgB_k e)
    have h := lawP_ok (w := w) (nx_g g1.1).1
    cases e2 : lawP B w (nx B (nx B t)) with
    | inl q => rw [e2] at h; exact h
    | inr q =>
      obtain ⟨t', l'⟩ := q
      rw [e2] at h
      exact ⟨h.1, by have := h.2.1; omega, h.2.2⟩
  · rw [if_neg e]
    exact rf_ok (by omega)
theorem lawD_ok (hB : B.2 ≤ 900) {w : Nat} (hw : w < 3) (hD : DG D) (ht : TKg B.1 B.2 t) (hk : t.2.2 ≠ 0) : DGo B (t.1 + 1) (lawD B D w t) := by
  have h := lawLP_ok (w := w) ht hk
  unfold lawD
  cases e2 : lawLP B w t with
  | inl q => rw [e2] at h; exact h
  | inr q =>
    obtain ⟨t', l'⟩ := q
    rw [e2] at h
    obtain ⟨h1, h2, h3, h4, h5⟩ := h
    have ho := h1.1.1
    refine ⟨h1, by omega, hD.1, hD.2.1, hD.2.2.1, fun v hv => ?_⟩
    show lawOK (decide (v = 2)) (mwV v) (if v = w then l' else dL D v)
    by_cases e4 : v = w
    · rw [if_pos e4, e4]
      refine ⟨by omega, fun _ => ?_, h4⟩
      have := h5 [] [] (by decide)
      rw [List.append_nil] at this
      exact this
    · rw [if_neg e4]; exact hD.2.2.2 v hv
theorem itemP_ok (hB : B.2 ≤ 900) (hD : DG D) (ht : TKg B.1 B.2 t) : DGo B (t.1 + 1) (itemP B D t) := by
  unfold itemP
  by_cases e1 : wB B.1 t (wsOf 4) = true
  · rw [if_pos e1]; exact cordP_ok hD ht (by have := wB_k e1; omega)
  rw [if_neg e1]
  by_cases e2 : wB B.1 t (wsOf 5) = true
  · rw [if_pos e2]; exact callP_ok hD ht (by have := wB_k e2; omega)
  rw [if_neg e2]
  by_cases e3 : wB B.1 t (wsOf 9) = true
  · rw [if_pos e3]; exact lawD_ok hB (by omega) hD ht (by have := wB_k e3; omega)
  rw [if_neg e3]
  by_cases e4 : wB B.1 t (wsOf 15) = true
  · rw [if_pos e4]; exact lawD_ok hB (by omega) hD ht (by have := wB_k e4; omega)
  rw [if_neg e4]
  by_cases e5 : wB B.1 t (wsOf 19) = true
  · rw [if_pos e5]; exact lawD_ok hB (by omega) hD ht (by have := wB_k e5; omega)
  rw [if_neg e5]
  by_cases e6 : wB B.1 t (wsOf 14) = true
  · rw [if_pos e6]; exact minP_ok hD ht (by have := wB_k e6; omega)
  rw [if_neg e6]
  exact rf_ok (by omega)
theorem dth_ok {s s' : Nat} {r : DLR} {f : TKN → DR → DLR} (h : DGo B s r) (k : ∀ t D, TKg B.1 B.2 t → s ≤ t.1 → DG D → DGo B s' (f t D)) : DGo B s' (dth r f) := by
  cases r with
  | inl e => exact h
  | inr p => exact k p.1 p.2 h.1 h.2.1 h.2.2
theorem endP_ok (hD : DG D) (ht : TKg B.1 B.2 t) : DGo B (t.1 + 1) (endP B t D) := by
  unfold endP
  by_cases e : sgB B.1 t 59 = true
  · rw [if_pos e]
    exact ⟨(nx_g ht).1, nx_1 ht (sgB_k e), hD⟩
  · rw [if_neg e]; exact rf_ok (by omega)
theorem DGo.le {s s' : Nat} {r : DLR} (h : DGo B s r) (hs : s' ≤ s) : DGo B s' r := by
  cases r with
  | inl e => exact h
  | inr p => exact ⟨h.1, Nat.le_trans hs h.2.1, h.2.2⟩
theorem lineP_ok (hB : B.2 ≤ 900) (hD : DG D) (ht : TKg B.1 B.2 t) : DGo B (t.1 + 1) (lineP B D t) :=
  dth_ok (itemP_ok hB hD ht) (fun t' D' g l d => (endP_ok d g).le (by omega))
/-- with enough turns the text is read to its end -/
theorem linesP_ok (hB : B.2 ≤ 900) : ∀ (r : Nat) (t : TKN) (D : DR), DG D → TKg B.1 B.2 t → 900 ≤ t.1 + r → match linesP B r t D with
    | .inl e => 1 ≤ e.1 ∧ e.1 ≤ 4
    | .inr (t', D') => t'.2.2 = 0 ∧ DG D' ∧ t'.1 ≤ 900
  | 0, t, D, hD, ht, h => by
    refine ⟨?_, hD, by have := ht.1.1; show t.1 ≤ 900; omega⟩
    show t.2.2 = 0
    by_cases e : t.2.2 = 0
    · exact e
    · have := ht.1.2.2.2.2 e
      have := ht.1.2.1
      omega
  | r + 1, t, D, hD, ht, h => by
    rw [linesP]
    by_cases e : t.2.2 = 0
    · rw [if_pos e]
      exact ⟨e, hD, by have := ht.1.1; omega⟩
    · rw [if_neg e]
      have hl := lineP_ok hB hD ht
      cases e2 : lineP B D t with
      | inl q => rw [e2] at hl; exact hl
      | inr q =>
        obtain ⟨t', D'⟩ := q
        rw [e2] at hl
        exact linesP_ok hB r t' D' hl.2.2 hl.1 (by have := hl.2.1; omega)
end DGs
/-- a fresh draft -/
def dr0 : DR := ((2, 0, 0), (0, fun _ => 0), (0, fun _ => (0, 0, 0, 0)), fun _ => [])
theorem dr0_ok : DG dr0 := ⟨⟨by decide, by decide, by decide⟩, ⟨by decide, fun k hk => absurd hk (Nat.not_lt_zero _)⟩, ⟨by decide, fun k hk => absurd hk (Nat.not_lt_zero _)⟩, fun w hw => ⟨Nat.zero_le 900, fun h => absurd rfl h, fun o ho => nomatch ho⟩⟩
theorem head_ok {B : BT} {t : TKN} (ht : TKg B.1 B.2 t) : DGo B (t.1 + 2) (headP B dr0 t) := by
  refine wth_ok ht (fun g l => nth_ok (numP_ok g) (fun t2 x e2 g2 l2 => ⟨g2, by omega, ⟨(numP_in e2).1, (numP_in e2).2, Nat.zero_le 999⟩, ⟨Nat.zero_le 3, fun k hk => absurd hk (Nat.not_lt_zero _)⟩, ⟨Nat.zero_le 10, fun k hk => absurd hk (Nat.not_lt_zero _)⟩, dr0_ok.2.2.2⟩))
theorem textP_ok {B : BT} (hB : B.2 ≤ 900) : match textP B dr0 with
    | .inl e => 1 ≤ e.1 ∧ e.1 ≤ 4
    | .inr (t', D') => t'.2.2 = 0 ∧ DG D' ∧ t'.1 ≤ 900 := by
  unfold textP
  have h := dth_ok (head_ok (lx_g (tb := B.1) (N := B.2) (Nat.zero_le _)).1) (fun t D g l d => (endP_ok d g).le (Nat.zero_le _))
  cases e2 : dth (headP B dr0 (lx B.1 B.2 0)) (endP B) with
  | inl q => rw [e2] at h; exact h
  | inr q =>
    obtain ⟨t', D'⟩ := q
    rw [e2] at h
    exact linesP_ok hB 900 t' D' h.2.2 h.1 (by omega)
