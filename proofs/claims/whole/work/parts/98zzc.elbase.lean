/-! the reference reads lines: steps -/
def PN (Z : CX0) (B : BT) (t : TKN) (I : mkI) : Prop := Low Z.1 Z.2.1 Z.2.2.1 I Z.2.2.2 ∧ TpR B.1 B.2 I ∧ TkR B.1 t I ∧ I 197 12 = 0 ∧ I 197 16 = 0
theorem kMB.rf {I : mkI} : kMB I I := ⟨fun _ _ => rfl, fun _ _ => rfl⟩
theorem kMB.tr {I I' I'' : mkI} (h : kMB I I') (h2 : kMB I' I'') : kMB I I'' := ⟨fun x a => (h2.1 x a).trans (h.1 x a), fun j a => (h2.2 j a).trans (h.2 j a)⟩
section E0
variable {Ls : Nat} {xs : Nat → Int32} {S : mkS} {L : mkL} {R : mkR} {n : Nat × Nat} {B : BT}
theorem PN.k {t t' : TKN} {I I' : mkI} (h : PN (Ls, xs, S, R) B t I) (k : kM I I') (ht : TkR B.1 t' I') : PN (Ls, xs, S, R) B t' I' := by
  obtain ⟨h1, h2, h3, h4, h5⟩ := h
  exact ⟨(kM.e (w := 0) k).low h1, k.tp h2, ht, by rw [k.2 12 (by omega)]; exact h4, by rw [k.2 16 (by omega)]; exact h5⟩
theorem e_adv0 (hs : St S R) {t : TKN} {I : mkI} (h : PN (Ls, xs, S, R) B t I) (hg : TKg B.1 B.2 t) : ∃ I', F_X12_readsOn (some 197) (mk S I L R n) = some (mk S I' L R n) ∧ PN (Ls, xs, S, R) B (nx B t) I' ∧ kM I I' := by
  obtain ⟨I', q1, q2, q3⟩ := e_readsOn (L := L) (n := n) hs h.2.1 hg.1.2.1 h.2.2.1.1
  exact ⟨I', q1, h.k q3 q2, q3⟩
theorem e_bl0 (hs : St S R) {t : TKN} {I : mkI} (h : PN (Ls, xs, S, R) B t I) (hg : TKg B.1 B.2 t) {k : Nat} (hk4 : 1 ≤ k ∧ k ≤ 4) : ∃ I', F_X12_blames (some 197) (nI k) (mk S I L R n) = some (mk S I' L R n) ∧ FlR (rf t k) I' ∧ kMB I I' := by
  obtain ⟨I', q1, q2, q3, q4⟩ := e_blames0 (L := L) (n := n) hs h.2.2.1 h.2.2.2.1 hg hk4
  exact ⟨I', q1, q2, q3, fun j a => q4 j (by omega) (by omega)⟩
theorem e_isW (hs : St S R) {t : TKN} {I : mkI} (h : PN (Ls, xs, S, R) B t I) (hg : TKg B.1 B.2 t) {a : Nat} (ha : a < 51) : F_X12_isWord (some 197) (some a) (mk S I L R n) = some (b2i (wB B.1 t (wsOf a)), mk S I L R n) := e_word0 hs h.1 h.2.1 h.2.2.1 h.2.2.2.1 hg ha
theorem e_took0 (hs : St S R) {t : TKN} {I : mkI} (h : PN (Ls, xs, S, R) B t I) (hg : TKg B.1 B.2 t) {a : Nat} (ha : a < 51) : ∃ I', F_X12_took (some 197) (some a) (mk S I L R n) = some (b2i (wB B.1 t (wsOf a)), mk S I' L R n) ∧ PN (Ls, xs, S, R) B (if wB B.1 t (wsOf a) = true then nx B t else t) I' ∧ kM I I' ∧ (wB B.1 t (wsOf a) = false → I' = I) := by
  unfold F_X12_took F_X12_took_14
  rw [cv_197 hs, e_isW hs h hg ha, b2_some, cv_197 hs, rZ_b]
  cases e : wB B.1 t (wsOf a) with
  | false =>
    rw [if_pos (show b2i false = 0 from rfl)]
    exact ⟨I, rfl, by rw [if_neg Bool.false_ne_true]; exact h, kM.rf, fun _ => rfl⟩
  | true =>
    obtain ⟨I', q1, q2, q3⟩ := e_adv0 (L := L) (n := n) hs h hg
    rw [if_neg (show ¬ b2i true = 0 by decide), q1, Option.bind_some, rZ_b]
    exact ⟨I', rfl, by rw [if_pos rfl]; exact q2, q3, fun z => by cases z⟩
theorem e_mWord (hs : St S R) {t : TKN} {I : mkI} (h : PN (Ls, xs, S, R) B t I) (hg : TKg B.1 B.2 t) {a : Nat} (ha : a < 51) : ∃ I', F_X12_mustWord (some 197) (some a) (mk S I L R n) = some (mk S I' L R n) ∧ (if wB B.1 t (wsOf a) = true then PN (Ls, xs, S, R) B (nx B t) I' ∧ kM I I' else FlR (rf t 2) I') ∧ kMB I I' := by
  obtain ⟨I1, q1, q2, q3, q4⟩ := e_took0 (L := L) (n := n) hs h hg ha
  unfold F_X12_mustWord F_X12_mustWord_13
  rw [cv_197 hs, q1, b2_some]
  cases e : wB B.1 t (wsOf a) with
  | false =>
    rw [q4 e]
    obtain ⟨I2, r1, r2, r3⟩ := e_bl0 (L := L) (n := n) hs h hg (k := 2) (by omega)
    rw [if_pos (show b2i false = 0 from rfl), cv_197 hs, show F_X12_blames (some 197) 2 (mk S I L R n) = _ from r1, Option.bind_some]
    exact ⟨I2, rfl, by rw [if_neg Bool.false_ne_true]; exact r2, r3⟩
  | true =>
    rw [e, if_pos rfl] at q2
    rw [if_neg (show ¬ b2i true = 0 by decide)]
    exact ⟨I1, rfl, by rw [if_pos rfl]; exact ⟨q2, q3⟩, q3.b⟩
theorem e_mWordF (hs : St S R) {I : mkI} (h : ¬ I 197 12 = 0) (a : Option Nat) : F_X12_mustWord (some 197) a (mk S I L R n) = some (mk S I L R n) := by
  unfold F_X12_mustWord F_X12_mustWord_13
  rw [cv_197 hs, e_tookF hs h, b2_some, if_pos rfl, cv_197 hs, e_blamesF hs h, Option.bind_some]
theorem e_mSign (hs : St S R) {t : TKN} {I : mkI} (h : PN (Ls, xs, S, R) B t I) (hg : TKg B.1 B.2 t) {c : Nat} (hc : 40 ≤ c ∧ c < 128) : ∃ I', F_X12_mustSign (some 197) (nI c) (mk S I L R n) = some (mk S I' L R n) ∧ (if sgB B.1 t c = true then PN (Ls, xs, S, R) B (nx B t) I' ∧ kM I I' else FlR (rf t 2) I') ∧ kMB I I' := by
  obtain ⟨r1, -, -, -, -, r6⟩ := rtk_all hg
  have esg : sgB B.1 t c = true ↔ nI (rtk B.1 t) = nI c := by
    unfold sgB
    rw [Bool.and_eq_true, decide_eq_true_eq, decide_eq_true_eq, nI_eq (by omega) (by omega), r6 c hc.1]
  unfold F_X12_mustSign F_X12_mustSign_13 F_X12_mustSign_24
  rw [gi_197_10 hs, Option.bind_some, h.2.2.1.2.2.1]
  by_cases e : sgB B.1 t c = true
  · obtain ⟨I', q1, q2, q3⟩ := e_adv0 (L := L) (n := n) hs h hg
    rw [if_pos (esg.mp e), gi_197_12 hs, Option.bind_some, h.2.2.2.1, if_pos rfl, cv_197 hs, q1, Option.bind_some]
    exact ⟨I', rfl, by rw [if_pos e]; exact ⟨q2, q3⟩, q3.b⟩
  · obtain ⟨I', q1, q2, q3⟩ := e_bl0 (L := L) (n := n) hs h hg (k := 2) (by omega)
    rw [if_neg (fun z => e (esg.mpr z)), cv_197 hs, show F_X12_blames (some 197) 2 (mk S I L R n) = _ from q1, Option.bind_some, gi_197_12 hs, Option.bind_some, if_neg q2.ne]
    exact ⟨I', rfl, by rw [if_neg e]; exact q2, q3⟩
def NE (Z : CX0) (B : BT) (I : mkI) (r : NR) (v : Int32) (I' : mkI) : Prop := match r with
  | .inl e => FlR e I'
  | .inr (t', x) => v = nI x ∧ x < 1000 ∧ PN Z B t' I' ∧ kM I I'
theorem e_num (hs : St S R) {t : TKN} {I : mkI} (h : PN (Ls, xs, S, R) B t I) (hg : TKg B.1 B.2 t) {lo hi : Nat} (hhi : hi < 100000) (hlo : lo < 100000) {un : Int32} (hun : t.2.2 = 3 → nI (nmV B.1 t) ≠ un) : ∃ I' v, F_X12_number (some 197) (nI lo) (nI hi) (mk S I L R n) = some (v, mk S I' L R n) ∧ NE (Ls, xs, S, R) B I (numP B lo hi un t) v I' ∧ (v = nI lo ∨ ∃ x, v = nI x ∧ numP B lo hi un t = .inr (nx B t, x)) ∧ kMB I I' := by
  obtain ⟨I', v, q1, q2, q3⟩ := e_number0 (L := L) (n := n) hs h.2.1 h.2.2.1 h.2.2.2.1 hg hhi hlo
  refine ⟨I', v, q1, ?_, ?_, q3⟩
  · unfold numP
    by_cases e : t.2.2 = 3
    · have hv := nmV_lt hg e
      by_cases e2 : lo ≤ nmV B.1 t ∧ nmV B.1 t ≤ hi
      · rw [if_pos ⟨e, e2⟩] at q2
        rw [if_pos e, if_pos ⟨e2, hun e⟩]
        exact ⟨q2.1, hv, h.k q2.2.2 q2.2.1, q2.2.2⟩
      · rw [if_neg (fun z => e2 z.2), if_pos e] at q2
        rw [if_pos e, if_neg (fun z => e2 z.1)]
        exact q2.2
    · rw [if_neg (fun z => e z.1), if_neg e] at q2
      rw [if_neg e]
      exact q2.2
  · by_cases e2 : t.2.2 = 3 ∧ lo ≤ nmV B.1 t ∧ nmV B.1 t ≤ hi
    · rw [if_pos e2] at q2
      unfold numP
      rw [if_pos e2.1, if_pos ⟨e2.2, hun e2.1⟩]
      exact .inr ⟨_, q2.1, rfl⟩
    · rw [if_neg e2] at q2
      exact .inl q2.1
theorem e_un1 {t : TKN} (hg : TKg B.1 B.2 t) : t.2.2 = 3 → nI (nmV B.1 t) ≠ -1 := fun e => nI_nm1 (by have := nmV_lt hg e; omega)
theorem e_numF (hs : St S R) {I : mkI} (h : ¬ I 197 12 = 0) (lo hi : Int32) : F_X12_number (some 197) lo hi (mk S I L R n) = some (lo, mk S I L R n) := by
  have h36 : F_X12_number_36 (some 197) lo (mk S I L R n) = some (lo, mk S I L R n) := by
    unfold F_X12_number_36 F_X12_number_52 F_X12_number_64
    rw [gi_197_11 hs, Option.bind_some, gi_197_12 hs, Option.bind_some, if_neg h, Option.bind_some, if_neg h]
  unfold F_X12_number
  rw [gi_197_10 hs, Option.bind_some]
  by_cases e : I 197 10 = 2
  · rw [if_pos e, gi_197_11 hs, Option.bind_some, e_in, b2_some, cv_197 hs, e_blamesF hs h, Option.bind_some, h36, ite_self]
  · rw [if_neg e, cv_197 hs, e_blamesF hs h, Option.bind_some, h36]
end E0
