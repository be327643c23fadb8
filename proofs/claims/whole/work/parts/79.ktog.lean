/-! together -/
def tog (C : Nat) (f : Nat → Int32) (l m : Int32) : Prop := ∃ c, c < C ∧ f (15 + 7 * c) = 1 ∧ ((f (11 + 7 * c) = l ∧ f (16 + 7 * c) = m) ∨ (f (11 + 7 * c) = m ∧ f (16 + 7 * c) = l))
theorem busyP_iff {f : Nat → Int32} {l : Int32} {c : Nat} : aBusyP f l c = true ↔ f (15 + 7 * c) = 1 ∧ (f (11 + 7 * c) = l ∨ f (16 + 7 * c) = l) := by
  unfold aBusyP
  simp only [Bool.and_eq_true, Bool.or_eq_true, decide_eq_true_eq]
theorem busy_uniq {P : PL} {C : Nat} {f : Nat → Int32} {F T A D : Nat → Nat} {M : Nat} (h : BI P C f F T A D M) {l : Int32} {c d : Nat} (hc : c < C) (hd : d < C) (h1 : aBusyP f l c = true) (h2 : aBusyP f l d = true) : c = d := by
  obtain ⟨-, -, -, h4, -, h6, -⟩ := h
  rw [busyP_iff] at h1 h2
  apply Classical.byContradiction
  intro e
  have := (h6 c d hc hd e h1.1 h2.1 (h4 c hc h1.1).1 (h4 d hd h2.1).1).1
  rcases h1.2 with q | q <;> rcases h2.2 with q2 | q2
  · exact this.1 (by rw [q, q2])
  · exact this.2.1 (by rw [q, q2])
  · exact this.2.2.1 (by rw [q, q2])
  · exact this.2.2.2 (by rw [q, q2])
theorem busy_v {P : PL} {C : Nat} {f : Nat → Int32} {F T A D : Nat → Nat} {M : Nat} (h : BI P C f F T A D M) {l : Int32} {c : Nat} (hc : c < C) (h1 : aBusyP f l c = true) : aBusy C f l = nI c := by
  have hC := h.1.1
  unfold aBusy
  rcases fnd_cases (aBusyP f l) C 0 with ⟨-, q2⟩ | ⟨k, -, q2, q3, q4, -⟩
  · rw [q2 c (Nat.zero_le _) (by omega)] at h1; cases h1
  · rw [q4, busy_uniq h hc (by omega) h1 q3]
theorem busy_n {C : Nat} {f : Nat → Int32} {l : Int32} (hC : C ≤ 10) (h : ¬ aBusy C f l = -1) : ∃ c, c < C ∧ aBusyP f l c = true ∧ aBusy C f l = nI c := fnd_lt h
theorem spk_tog {P : PL} {C : Nat} {f : Nat → Int32} {F T A D : Nat → Nat} {M : Nat} (h : BI P C f F T A D M) {a b : Nat} (ha : a < 8) (hb : b < 8) (hab : a ≠ b) : spkL f (nI a) C 0 = nI b ↔ tog C f (nI a) (nI b) := by
  have hC := h.1.1
  have ne : nI b ≠ nI a := fun q => hab ((nI_eq (by omega) (by omega)).mp q).symm
  rw [spk_eq C 0 (by omega) _ rfl]
  by_cases hv : fnd (aBusyP f (nI a)) C 0 = -1
  · rw [if_pos hv]
    constructor
    · intro q; exact absurd q.symm (nI_nm1 (by omega))
    · rintro ⟨c, hc, s, q⟩
      have : aBusyP f (nI a) c = true := busyP_iff.mpr ⟨s, by rcases q with q | q; exact .inl q.1; exact .inr q.2⟩
      have e := busy_v h hc this
      unfold aBusy at e
      rw [hv] at e
      exact absurd e.symm (nI_nm1 (by omega))
  · rw [if_neg hv]
    obtain ⟨c, hc, hp, e⟩ := fnd_lt hv
    rw [e, nI_clamp (by omega)]
    have hp2 := busyP_iff.mp hp
    constructor
    · intro q
      by_cases z : f (11 + 7 * c) = nI a
      · rw [if_pos z] at q; exact ⟨c, hc, hp2.1, .inl ⟨z, q⟩⟩
      · rw [if_neg z] at q; exact ⟨c, hc, hp2.1, .inr ⟨q, hp2.2.resolve_left z⟩⟩
    · rintro ⟨d, hd, s, q⟩
      have : aBusyP f (nI a) d = true := busyP_iff.mpr ⟨s, by rcases q with q | q; exact .inl q.1; exact .inr q.2⟩
      have := busy_uniq h hc hd hp this
      subst this
      rcases q with q | q
      · rw [if_pos q.1, q.2]
      · rw [if_neg (by rw [q.1]; exact ne), q.1]
section TGr
variable {S : mkS} {L : mkL} {R : mkR} {n : Nat × Nat} {P : PL}
theorem e_areTog (hs : St S R) {C : Nat} {f : Nat → Int32} {F T A D : Nat → Nat} {M : Nat} (h : BI P C f F T A D M) {I : mkI} (hR : RBoard C f (I 198)) {a b : Nat} (ha : a < 8) (hb : b < 8) (hab : a ≠ b) : ∃ t : Bool, F_X12_areTogether (some 197) (nI a) (nI b) (mk S I L R n) = some (b2i t, mk S I L R n) ∧ (t = true ↔ tog C f (nI a) (nI b)) := by
  have hC := h.1.1
  have ne : nI b ≠ nI a := fun q => hab ((nI_eq (by omega) (by omega)).mp q).symm
  unfold F_X12_areTogether F_X12_areTogether_24 F_X12_areTogether_25
  rw [cv_197 hs, e_busy hs hR, b2_some]
  by_cases q1 : aBusy C f (nI a) = -1
  · refine ⟨false, by rw [if_pos q1]; rfl, ?_⟩
    constructor
    · intro z; cases z
    · rintro ⟨c, hc, s, q⟩
      have : aBusyP f (nI a) c = true := busyP_iff.mpr ⟨s, by rcases q with q | q; exact .inl q.1; exact .inr q.2⟩
      rw [busy_v h hc this] at q1
      exact absurd q1 (nI_nm1 (by omega))
  · rw [if_neg q1, cv_197 hs, e_busy hs hR, b2_some]
    obtain ⟨c, hc, hp, e⟩ := busy_n hC q1
    by_cases q2 : aBusy C f (nI a) = aBusy C f (nI b)
    · refine ⟨true, by rw [if_pos q2]; rfl, fun _ => ?_, fun _ => rfl⟩
      have q3 : ¬ aBusy C f (nI b) = -1 := by rw [← q2]; exact q1
      obtain ⟨d, hd, hp2, e2⟩ := busy_n hC q3
      rw [e, e2, nI_eq (by omega) (by omega)] at q2
      subst q2
      rw [busyP_iff] at hp hp2
      refine ⟨c, hc, hp.1, ?_⟩
      rcases hp.2 with z | z <;> rcases hp2.2 with y | y
      · exact absurd (y.symm.trans z) ne
      · exact .inl ⟨z, y⟩
      · exact .inr ⟨y, z⟩
      · exact absurd (y.symm.trans z) ne
    · refine ⟨false, by rw [if_neg q2]; rfl, ?_⟩
      constructor
      · intro z; cases z
      · rintro ⟨d, hd, s, q⟩
        have p1 : aBusyP f (nI a) d = true := busyP_iff.mpr ⟨s, by rcases q with q | q; exact .inl q.1; exact .inr q.2⟩
        have p2 : aBusyP f (nI b) d = true := busyP_iff.mpr ⟨s, by rcases q with q | q; exact .inr q.2; exact .inl q.1⟩
        exact absurd (by rw [busy_v h hd p1, busy_v h hd p2]) q2
def TGv (tg : Nat → Prop) (v : Int32) : Prop := (v = -1 ∧ ∀ j, j ≤ 1200 → ¬ tg j) ∨ ∃ k, k ≤ 1200 ∧ v = nI k ∧ tg k ∧ ∀ j, j < k → ¬ tg j
theorem TGv.one {tg : Nat → Prop} {v v' : Int32} (h : TGv tg v) (h' : TGv tg v') : v = v' := by
  rcases h with ⟨h1, h2⟩ | ⟨k, hk, h1, h2, h3⟩
  · rcases h' with ⟨h4, -⟩ | ⟨j, hj, -, h5, -⟩
    · rw [h1, h4]
    · exact absurd h5 (h2 j hj)
  · rcases h' with ⟨-, h4⟩ | ⟨j, hj, h4, h5, h6⟩
    · exact absurd h2 (h4 k hk)
    · rcases Nat.lt_trichotomy k j with q | q | q
      · exact absurd h2 (h6 k q)
      · rw [h1, h4, q]
      · exact absurd h5 (h3 j q)
def tgK (P : PL) (frc : Nat → Int32) (C : Nat) (f : Nat → Int32) (A : Nat → Nat) (M : Nat) (l m : Int32) (k : Nat) : Prop := tog C (fin_ C (M + k + 1) (gRun P frc C (evU f A C M (k + 1)) f)) l m
def pv (k : Nat) : Int32 := if k = 0 then -1 else nI (k - 1)
theorem pv_1 : ∀ (k : Nat), pv k + 1 = pv (k + 1)
  | 0 => by decide
  | k + 1 => by
    unfold pv
    rw [if_neg (Nat.succ_ne_zero _), if_neg (Nat.succ_ne_zero _), Nat.add_sub_cancel, Nat.add_sub_cancel, nI_1]
theorem e_togL (hs : St S R) (hP : PlOK P) {C : Nat} {f : Nat → Int32} {F T A D : Nat → Nat} {M : Nat} (hB : BI P C f F T A D M) {I I0 : mkI} (h1 : ∀ a, a ≠ 206 → I0 a = I a) (h2 : ∀ j, j < 41 → I0 206 j = I 198 (7 + j)) (hKP : RPlan P (I0 198)) (hf : frcOK P (I0 205)) (hN : M + 1300 ≤ 300000) {a b : Nat} (ha : a < 8) (hb : b < 8) (hab : a ≠ b) : ∀ (r g k : Nat) (t : Bool) (J : mkI), k + r = 1201 → r < g → MinS P C f A M k I0 J → ((t = false ∧ ∀ j, j < k → ¬ tgK P (I0 205) C f A M (nI a) (nI b) j) ∨ (t = true ∧ ∃ z, k = z + 1 ∧ tgK P (I0 205) C f A M (nI a) (nI b) z ∧ ∀ j, j < z → ¬ tgK P (I0 205) C f A M (nI a) (nI b) j)) → ∃ I3 v, F_X12_together_65 g (some 197) (nI a) (nI b) (pv k) (b2i t) (mk S J L R n) = some (v, mk S I3 L R n) ∧ TGv (tgK P (I0 205) C f A M (nI a) (nI b)) v ∧ scQ I I3 ∧ ∀ j, j ≠ 22 → I3 197 j = I 197 j := by
  have pvle : ∀ k, k ≤ 1200 → ¬ (1200 : Int32) ≤ pv k := fun k hk => by
    unfold pv
    by_cases h : k = 0
    · rw [if_pos h]; decide
    · rw [if_neg h]; exact ge_li 1200 (by omega) (by omega)
  have last : ∀ (k : Nat) (t : Bool) (J : mkI), k ≤ 1201 → MinS P C f A M k I0 J → ((t = false ∧ k = 1201 ∧ ∀ j, j < k → ¬ tgK P (I0 205) C f A M (nI a) (nI b) j) ∨ (t = true ∧ ∃ z, k = z + 1 ∧ tgK P (I0 205) C f A M (nI a) (nI b) z ∧ ∀ j, j < z → ¬ tgK P (I0 205) C f A M (nI a) (nI b) j)) → ∃ I3 v, F_X12_together_95 (some 197) (pv k) (b2i t) (mk S J L R n) = some (v, mk S I3 L R n) ∧ TGv (tgK P (I0 205) C f A M (nI a) (nI b)) v ∧ scQ I I3 ∧ ∀ j, j ≠ 22 → I3 197 j = I 197 j := by
    intro k t J hk h hi
    obtain ⟨I3, q1, q2, q3, -⟩ := e_aback (L := L) (n := n) hs h1 h2 h.1
    unfold F_X12_together_95 F_X12_together_109
    rw [cv_197 hs, q1, Option.bind_some]
    rcases hi with ⟨rfl, y1, y2⟩ | ⟨rfl, z, rfl, y1, y2⟩
    · exact ⟨I3, -1, by rw [if_pos (by decide)], .inl ⟨rfl, fun j hj => y2 j (by omega)⟩, q2, q3⟩
    · refine ⟨I3, nI z, ?_, .inr ⟨z, by omega, rfl, y1, y2⟩, q2, q3⟩
      rw [if_neg (by decide)]
      unfold pv
      rw [if_neg (by omega), Nat.add_sub_cancel]
  intro r
  induction r with
  | zero =>
    intro g k t J hk hg h hi
    obtain ⟨g, rfl⟩ : ∃ z, g = z + 1 := ⟨g - 1, by omega⟩
    have : k = 1201 := by omega
    subst this
    simp only [F_X12_together_65]
    rw [if_pos (show (1200 : Int32) ≤ pv 1201 from by decide)]
    exact last 1201 t J (Nat.le_refl _) h (by
      rcases hi with ⟨y1, y2⟩ | y
      · exact .inl ⟨y1, rfl, y2⟩
      · exact .inr y)
  | succ r ih =>
    intro g k t J hk hg h hi
    obtain ⟨g, rfl⟩ : ∃ z, g = z + 1 := ⟨g - 1, by omega⟩
    simp only [F_X12_together_65]
    rw [if_neg (pvle k (by omega))]
    rcases hi with ⟨rfl, y2⟩ | ⟨rfl, y⟩
    · rw [if_pos (by decide)]
      obtain ⟨J1, q1, q2, q3⟩ := e_minK (L := L) (n := n) hs hP hB hKP hf (by omega) h
      have hB2 := hB.pass hP hf (n := k + 1) (by omega)
      obtain ⟨t, t1, t2⟩ := e_areTog (L := L) (n := n) hs hB2 q2.2 ha hb hab
      rw [cv_197 hs, q1, Option.bind_some, cv_197 hs, t1, b2_some, pv_1]
      refine ih g (k + 1) t J1 (by omega) (by omega) q2 ?_
      cases t with
      | false =>
        refine .inl ⟨rfl, fun j hj => ?_⟩
        by_cases e : j = k
        · subst e; exact fun w => by have := t2.mpr w; cases this
        · exact y2 j (by omega)
      | true => exact .inr ⟨rfl, k, rfl, t2.mp rfl, y2⟩
    · rw [if_neg (by decide)]
      exact last k true J (by omega) h (.inr ⟨rfl, y⟩)
end TGr
section TGc
variable {S : mkS} {I : mkI} {L : mkL} {R : mkR} {n : Nat × Nat}
def tgC (f h : Nat → Int32) (l m : Int32) (c : Nat) : Prop := f (15 + 7 * c) = 0 ∧ ((h (11 + 7 * c) = l ∧ h (16 + 7 * c) = m) ∨ (h (11 + 7 * c) = m ∧ h (16 + 7 * c) = l))
theorem c_tgL (hs : St S R) (hb : BdS S R 170 174 175) {C M : Nat} (hC : C ≤ 10) (h1 : I 174 1 = nI C) (h2 : I 182 1 = nI C) (h0 : I 174 0 = nI M) {A : Nat → Nat} (hA : ∀ c, c < C → I 174 (13 + 7 * c) = nI (A c) ∧ A c ≤ 200000) {l m : Int32} (hM : ∀ c, c < C → tgC (I 174) (I 182) l m c → M ≤ A c) : ∀ (r g c : Nat) (v : Int32), c + r = C → r < g → ((v = -1 ∧ ∀ d, d < c → ¬ tgC (I 174) (I 182) l m d) ∨ ∃ b, b ≤ 200000 ∧ v = nI b ∧ (∃ d, d < c ∧ tgC (I 174) (I 182) l m d ∧ A d - M = b) ∧ ∀ d, d < c → tgC (I 174) (I 182) l m d → b ≤ A d - M) → ∃ v', F_X11_together_53 g (some 128) l m v (nI c) (mk S I L R n) = some (.inr v', mk S I L R n) ∧ ((v' = -1 ∧ ∀ d, d < C → ¬ tgC (I 174) (I 182) l m d) ∨ ∃ b, b ≤ 200000 ∧ v' = nI b ∧ (∃ d, d < C ∧ tgC (I 174) (I 182) l m d ∧ A d - M = b) ∧ ∀ d, d < C → tgC (I 174) (I 182) l m d → b ≤ A d - M) := by
  have ht := bds_t hs
  intro r
  induction r with
  | zero =>
    intro g c v hc hg hi
    obtain ⟨g, rfl⟩ : ∃ z, g = z + 1 := ⟨g - 1, by omega⟩
    have : c = C := by omega
    subst this
    refine ⟨v, ?_, hi⟩
    simp only [F_X11_together_53]
    rw [gr_128_5 hs, Option.bind_some, bd_v hb, c_calls hb, b2_some, h1, if_pos (nI_le (by omega) (by omega))]
  | succ r ih =>
    intro g c v hc hg hi
    obtain ⟨g, rfl⟩ : ∃ z, g = z + 1 := ⟨g - 1, by omega⟩
    have hcC : c < C := by omega
    have f2 : F_X0_fact (some 170) (nI c) (2 : Int32) (mk S I L R n) = some (nI (A c), mk S I L R n) := by
      have := c_fact (n := n) (L := L) (w := 2) hb hC h1 hcC (by decide)
      rw [show 11 + 7 * c + 2 = 13 + 7 * c by omega, (hA c hcC).1] at this; exact this
    have f0 : F_X0_fact (some 181) (nI c) (0 : Int32) (mk S I L R n) = some (I 182 (11 + 7 * c), mk S I L R n) := c_fact (w := 0) ht hC h2 hcC (by decide)
    have f5 : F_X0_fact (some 181) (nI c) (5 : Int32) (mk S I L R n) = some (I 182 (16 + 7 * c), mk S I L R n) := by
      have := c_fact (n := n) (L := L) (w := 5) ht hC h2 hcC (by decide)
      rw [show 11 + 7 * c + 5 = 16 + 7 * c by omega] at this; exact this
    have ej : ∃ t : Bool, F_X0_joined (some 181) (nI c) l m (mk S I L R n) = some (b2i t, mk S I L R n) ∧ (t = true ↔ ((I 182 (11 + 7 * c) = l ∧ I 182 (16 + 7 * c) = m) ∨ (I 182 (11 + 7 * c) = m ∧ I 182 (16 + 7 * c) = l))) := by
      unfold F_X0_joined F_X0_joined_40 F_X0_joined_28 F_X0_joined_40 F_X0_joined_44 F_X0_joined_45
      simp only [bd_v ht, f0, f5, b2_some]
      refine ⟨decide ((I 182 (11 + 7 * c) = l ∧ I 182 (16 + 7 * c) = m) ∨ (I 182 (11 + 7 * c) = m ∧ I 182 (16 + 7 * c) = l)), ?_, by simp⟩
      by_cases z1 : I 182 (11 + 7 * c) = l <;> by_cases z2 : I 182 (16 + 7 * c) = m <;> by_cases z3 : I 182 (11 + 7 * c) = m <;> by_cases z4 : I 182 (16 + 7 * c) = l <;> simp [z1, z2, z3, z4, rZ, b2i] <;> (first | (by_cases y : m = l <;> simp [y]; done) | (by_cases y : l = m <;> simp [y]))
    obtain ⟨t, t1, t2⟩ := ej
    have nle : ¬ nI C ≤ nI c := nI_ge (by omega) (by omega)
    simp only [F_X11_together_53, F_X11_together_127, F_X11_together_128, gr_128_5 hs, gr_128_7 hs, Option.bind_some, bd_v hb, bd_v ht, c_calls hb, b2_some, h1, if_neg nle, c_isToCome hb hC h1 hcC, b2i_0, t1, f2, c_minute hb, h0, nI_1]
    have skip : ¬ tgC (I 174) (I 182) l m c → ∃ v', F_X11_together_53 g (some 128) l m v (nI (c + 1)) (mk S I L R n) = some (.inr v', mk S I L R n) ∧ ((v' = -1 ∧ ∀ d, d < C → ¬ tgC (I 174) (I 182) l m d) ∨ ∃ b, b ≤ 200000 ∧ v' = nI b ∧ (∃ d, d < C ∧ tgC (I 174) (I 182) l m d ∧ A d - M = b) ∧ ∀ d, d < C → tgC (I 174) (I 182) l m d → b ≤ A d - M) := fun hn => by
      refine ih g (c + 1) v (by omega) (by omega) ?_
      rcases hi with ⟨y1, y2⟩ | ⟨b, y1, y2, ⟨d, y3, y4⟩, y5⟩
      · exact .inl ⟨y1, fun d hd q => by
          by_cases e : d = c
          · subst e; exact hn q
          · exact y2 d (by omega) q⟩
      · exact .inr ⟨b, y1, y2, ⟨d, by omega, y4⟩, fun d hd q => by
          by_cases e : d = c
          · subst e; exact absurd q hn
          · exact y5 d (by omega) q⟩
    by_cases q1 : I 174 (15 + 7 * c) = 0
    · rw [if_neg (by simp [q1])]
      by_cases q2 : t = false
      · rw [if_pos q2]
        exact skip (fun w => by have := t2.mpr w.2; rw [q2] at this; cases this)
      · have q2' : t = true := by simpa using q2
        have hcand : tgC (I 174) (I 182) l m c := ⟨q1, t2.mp q2'⟩
        have hMA := hM c hcC hcand
        have hAc := (hA c hcC).2
        rw [if_neg q2, nI_sub hMA]
        rcases hi with ⟨y1, y2⟩ | ⟨b, y1, y2, ⟨d, y3, y4, y6⟩, y5⟩
        · rw [if_pos y1]
          refine ih g (c + 1) _ (by omega) (by omega) (.inr ⟨A c - M, by omega, rfl, ⟨c, by omega, hcand, rfl⟩, fun d hd q => ?_⟩)
          by_cases e : d = c
          · subst e; exact Nat.le_refl _
          · exact absurd q (y2 d (by omega))
        · rw [if_neg (by rw [y2]; exact nI_nm1 (by omega)), y2, mnI_nI (by omega) (by omega)]
          refine ih g (c + 1) _ (by omega) (by omega) (.inr ⟨min b (A c - M), by omega, rfl, ?_, fun d hd q => ?_⟩)
          · rcases Nat.le_total b (A c - M) with z | z
            · exact ⟨d, by omega, y4, by omega⟩
            · exact ⟨c, by omega, hcand, by omega⟩
          · by_cases e : d = c
            · subst e; exact Nat.min_le_right _ _
            · have := y5 d (by omega) q; omega
    · rw [if_pos (by simp [q1])]
      exact skip (fun w => q1 w.1)
end TGc
