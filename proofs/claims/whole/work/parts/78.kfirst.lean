/-! firstLost -/
def FLst (A : Nat → Nat) (l : List Nat) (c : Nat) : Prop := c ∈ l ∧ ∀ d, d ∈ l → A c < A d ∨ (A c = A d ∧ c ≤ d)
def FLv (A : Nat → Nat) (l : List Nat) (v : Int32) : Prop := (l = [] ∧ v = -1) ∨ ∃ c, v = nI c ∧ FLst A l c
theorem FLv.one {A : Nat → Nat} {l : List Nat} {v v' : Int32} (h : FLv A l v) (h' : FLv A l v') : v = v' := by
  rcases h with ⟨h1, h2⟩ | ⟨c, h1, h2, h3⟩
  · rcases h' with ⟨-, h4⟩ | ⟨d, -, h5, -⟩
    · rw [h2, h4]
    · rw [h1] at h5; cases h5
  · rcases h' with ⟨h4, -⟩ | ⟨d, h4, h5, h6⟩
    · rw [h4] at h2; cases h2
    · have a1 := h3 d h5
      have a2 := h6 c h2
      rw [h1, h4, show c = d by omega]
theorem least_of {p : Nat → Prop} (n : Nat) (h : p n) : ∃ m, p m ∧ m ≤ n ∧ ∀ j, j < m → ¬ p j := by
  induction n using Nat.strongRecOn with
  | ind n ih =>
    by_cases q : ∃ m, m < n ∧ p m
    · obtain ⟨m, hm, hp⟩ := q
      obtain ⟨z, z1, z2, z3⟩ := ih m hm hp
      exact ⟨z, z1, by omega, z3⟩
    · exact ⟨n, h, Nat.le_refl _, fun j hj hp => q ⟨j, hj, hp⟩⟩
section FO
variable {S : mkS} {I : mkI} {L : mkL} {R : mkR} {n : Nat × Nat} {P : PL}
theorem e_firstOfL (h : MH) {v d : Nat} (hd : d < 31) (h1 : v.testBit d = true) (h2 : ∀ j, j < d → v.testBit j = false) : ∀ (r g c : Nat), c + r = d → r < g → F_X12_firstOf_2 g (nI v) (nI c) h = some (nI d, h) := by
  intro r
  induction r with
  | zero =>
    intro g c hc hg
    obtain ⟨g, rfl⟩ : ∃ z, g = z + 1 := ⟨g - 1, by omega⟩
    have : c = d := by omega
    subst this
    simp only [F_X12_firstOf_2]
    rw [e_has, b2_some, hasB_nI hd, h1, if_neg (by decide)]
  | succ r ih =>
    intro g c hc hg
    obtain ⟨g, rfl⟩ : ∃ z, g = z + 1 := ⟨g - 1, by omega⟩
    simp only [F_X12_firstOf_2]
    rw [e_has, b2_some, hasB_nI (by omega), h2 c (by omega), if_pos (by decide), nI_1]
    exact ih g (c + 1) (by omega) (by omega)
theorem e_firstOf (h : MH) {l : List Nat} (hl : ∀ c ∈ l, c < 10) (hne : l ≠ []) : ∃ d, d ∈ l ∧ (∀ j, j ∈ l → d ≤ j) ∧ F_X12_firstOf (nI (bitsN l 0)) h = some (nI d, h) := by
  obtain ⟨x, hx⟩ := List.exists_mem_of_ne_nil l hne
  obtain ⟨d, d1, d2, d3⟩ := least_of (p := fun z => z ∈ l) x hx
  have tb : ∀ j, (bitsN l 0).testBit j = decide (j ∈ l) := fun j => by rw [bitsN_test, Nat.zero_testBit, Bool.false_or]
  refine ⟨d, d1, fun j hj => ?_, ?_⟩
  · rcases Nat.lt_or_ge j d with q | q
    · exact absurd hj (d3 j q)
    · exact q
  · have := hl d d1
    exact e_firstOfL h (show d < 31 by omega) (by rw [tb]; exact decide_eq_true d1) (fun j hj => by rw [tb]; exact decide_eq_false (d3 j hj)) d mm_N 0 (by omega) (by show d < 1000000; omega)
theorem c_flL (hs : St S R) (hb : BdS S R 170 174 175) {C : Nat} (hC : C ≤ 10) (h1 : I 174 1 = nI C) (h2 : I 182 1 = nI C) {A : Nat → Nat} (hA : ∀ c, c < C → I 174 (13 + 7 * c) = nI (A c) ∧ A c ≤ 200000) : ∀ (r g c : Nat) (v : Int32), c + r = C → r < g → ((v = -1 ∧ ∀ d, d < c → ¬ (I 174 (15 + 7 * d) = 0 ∧ I 182 (15 + 7 * d) = 3)) ∨ ∃ b, b < c ∧ v = nI b ∧ (I 174 (15 + 7 * b) = 0 ∧ I 182 (15 + 7 * b) = 3) ∧ ∀ d, d < c → I 174 (15 + 7 * d) = 0 ∧ I 182 (15 + 7 * d) = 3 → A b < A d ∨ (A b = A d ∧ b ≤ d)) → ∃ v', F_X11_firstLost_12 g (some 128) v (nI c) (mk S I L R n) = some (v', mk S I L R n) ∧ ((v' = -1 ∧ ∀ d, d < C → ¬ (I 174 (15 + 7 * d) = 0 ∧ I 182 (15 + 7 * d) = 3)) ∨ ∃ b, b < C ∧ v' = nI b ∧ (I 174 (15 + 7 * b) = 0 ∧ I 182 (15 + 7 * b) = 3) ∧ ∀ d, d < C → I 174 (15 + 7 * d) = 0 ∧ I 182 (15 + 7 * d) = 3 → A b < A d ∨ (A b = A d ∧ b ≤ d)) := by
  have ht := bds_t hs
  intro r
  induction r with
  | zero =>
    intro g c v hc hg hi
    obtain ⟨g, rfl⟩ : ∃ z, g = z + 1 := ⟨g - 1, by omega⟩
    have : c = C := by omega
    subst this
    refine ⟨v, ?_, hi⟩
    simp only [F_X11_firstLost_12]
    rw [gr_128_5 hs, Option.bind_some, bd_v hb, c_calls hb, b2_some, h1, if_pos (nI_le (by omega) (by omega))]
  | succ r ih =>
    intro g c v hc hg hi
    obtain ⟨g, rfl⟩ : ∃ z, g = z + 1 := ⟨g - 1, by omega⟩
    have hcC : c < C := by omega
    have f2 : ∀ c, c < C → F_X0_fact (some 170) (nI c) (2 : Int32) (mk S I L R n) = some (nI (A c), mk S I L R n) := fun c hcC => by
      have := c_fact (n := n) (L := L) (w := 2) hb hC h1 hcC (by decide)
      rw [show 11 + 7 * c + 2 = 13 + 7 * c by omega, (hA c hcC).1] at this; exact this
    have f4 : F_X0_fact (some 181) (nI c) (4 : Int32) (mk S I L R n) = some (I 182 (15 + 7 * c), mk S I L R n) := by
      have := c_fact (n := n) (L := L) (w := 4) ht hC h2 hcC (by decide)
      rw [show 11 + 7 * c + 4 = 15 + 7 * c by omega] at this; exact this
    have nle : ¬ nI C ≤ nI c := nI_ge (by omega) (by omega)
    simp only [F_X11_firstLost_12, F_X11_firstLost_51, F_X11_firstLost_52, F_X11_firstLost_83, F_X11_firstLost_85, gr_128_5 hs, gr_128_7 hs, Option.bind_some, bd_v hb, bd_v ht, c_calls hb, b2_some, h1, if_neg nle, c_isToCome hb hC h1 hcC, b2i_0, f2 c hcC, f4, nI_1]
    have skip : ¬ (I 174 (15 + 7 * c) = 0 ∧ I 182 (15 + 7 * c) = 3) → ((v = -1 ∧ ∀ d, d < c + 1 → ¬ (I 174 (15 + 7 * d) = 0 ∧ I 182 (15 + 7 * d) = 3)) ∨ ∃ b, b < c + 1 ∧ v = nI b ∧ (I 174 (15 + 7 * b) = 0 ∧ I 182 (15 + 7 * b) = 3) ∧ ∀ d, d < c + 1 → I 174 (15 + 7 * d) = 0 ∧ I 182 (15 + 7 * d) = 3 → A b < A d ∨ (A b = A d ∧ b ≤ d)) := fun hn => by
      rcases hi with ⟨y1, y2⟩ | ⟨b, y1, y2, y3, y4⟩
      · exact .inl ⟨y1, fun d hd q => by
          by_cases e : d = c
          · subst e; exact hn q
          · exact y2 d (by omega) q⟩
      · exact .inr ⟨b, by omega, y2, y3, fun d hd q => by
          by_cases e : d = c
          · subst e; exact absurd q hn
          · exact y4 d (by omega) q⟩
    by_cases q1 : I 174 (15 + 7 * c) = 0
    · rw [if_neg (by simp [q1])]
      by_cases q2 : I 182 (15 + 7 * c) = 3
      · rw [if_pos q2, if_neg (by decide)]
        have take : (∀ d, d < c → I 174 (15 + 7 * d) = 0 ∧ I 182 (15 + 7 * d) = 3 → A c < A d) → ∃ v', F_X11_firstLost_12 g (some 128) (nI c) (nI (c + 1)) (mk S I L R n) = some (v', mk S I L R n) ∧ ((v' = -1 ∧ ∀ d, d < C → ¬ (I 174 (15 + 7 * d) = 0 ∧ I 182 (15 + 7 * d) = 3)) ∨ ∃ b, b < C ∧ v' = nI b ∧ (I 174 (15 + 7 * b) = 0 ∧ I 182 (15 + 7 * b) = 3) ∧ ∀ d, d < C → I 174 (15 + 7 * d) = 0 ∧ I 182 (15 + 7 * d) = 3 → A b < A d ∨ (A b = A d ∧ b ≤ d)) := fun hlt =>
          ih g (c + 1) (nI c) (by omega) (by omega) (.inr ⟨c, by omega, rfl, ⟨q1, q2⟩, fun d hd q => by
            by_cases e : d = c
            · subst e; exact .inr ⟨rfl, Nat.le_refl _⟩
            · exact .inl (hlt d (by omega) q)⟩)
        rcases hi with ⟨y1, y2⟩ | ⟨b, y1, y2, y3, y4⟩
        · rw [if_pos y1]
          exact take (fun d hd q => absurd q (y2 d hd))
        · rw [if_neg (by rw [y2]; exact nI_nm1 (by omega)), y2, f2 b (by omega), b2_some]
          have a1 := (hA b (by omega)).2
          have a2 := (hA c hcC).2
          by_cases t : A b ≤ A c
          · rw [if_pos (nI_le t (by omega))]
            refine ih g (c + 1) (nI b) (by omega) (by omega) (.inr ⟨b, by omega, rfl, y3, fun d hd q => ?_⟩)
            by_cases e : d = c
            · subst e; omega
            · exact y4 d (by omega) q
          · rw [if_neg (nI_ge (by omega) (by omega))]
            refine take (fun d hd q => ?_)
            have := y4 d hd q
            omega
      · rw [if_neg q2, if_pos trivial]
        exact ih g (c + 1) v (by omega) (by omega) (skip (fun q => q2 q.2))
    · rw [if_pos (by simp [q1]), if_pos trivial]
      exact ih g (c + 1) v (by omega) (by omega) (skip (fun q => q1 q.1))
theorem e_flL (hs : St S R) (hP : PlOK P) {C : Nat} {f : Nat → Int32} {F T A D : Nat → Nat} {M : Nat} (hB : BI P C f F T A D M) {I I0 I1 : mkI} (h1 : ∀ a, a ≠ 206 → I1 a = I a) (h2 : ∀ j, j < 41 → I1 206 j = I 198 (7 + j)) (h3 : keepM I1 I0) (hKP : RPlan P (I0 198)) (hf : frcOK P (I0 205)) (hN : M + 1200 ≤ 300000) : ∀ (r g k : Nat) (J : mkI) (l : List Nat), k + r = 1200 → r < g → MinS P C f A M k I0 J → J 197 22 = nI (bitsN l 0) → (∀ c ∈ l, c < 10) → (gLost P (I0 205) C (evU f A C M k) f = l) → (l ≠ [] → ∃ t, (∀ c ∈ l, A c = t) ∧ ∀ z, ∀ c ∈ gLost P (I0 205) C (evU f A C (M + k) z) (gRun P (I0 205) C (evU f A C M k) f), t < A c) → ∃ I3 v, F_X12_firstLost_16 g (some 197) (nI k) (mk S J L R n) = some (v, mk S I3 L R n) ∧ FLv A (gLost P (I0 205) C (evU f A C M 1200) f) v ∧ scQ I I3 ∧ ∀ j, j ≠ 22 → I3 197 j = I 197 j := by
  have hC := hB.1.1
  -- the end
  have fin40 : ∀ (k : Nat) (J : mkI) (l : List Nat), k ≤ 1200 → MinS P C f A M k I0 J → J 197 22 = nI (bitsN l 0) → (∀ c ∈ l, c < 10) → gLost P (I0 205) C (evU f A C M k) f = l → (l = [] → k = 1200) → (l ≠ [] → ∃ t, (∀ c ∈ l, A c = t) ∧ ∀ z, ∀ c ∈ gLost P (I0 205) C (evU f A C (M + k) z) (gRun P (I0 205) C (evU f A C M k) f), t < A c) → ∃ I3 v, F_X12_firstLost_40 (some 197) (mk S J L R n) = some (v, mk S I3 L R n) ∧ FLv A (gLost P (I0 205) C (evU f A C M 1200) f) v ∧ scQ I I3 ∧ ∀ j, j ≠ 22 → I3 197 j = I 197 j := by
    intro k J l hk h hb hl hg hz ht
    obtain ⟨I3, q1, q2, q3, -⟩ := e_aback (L := L) (n := n) hs h1 h2 (h3.tr h.1)
    by_cases hne : l = []
    · have := hz hne
      subst this
      refine ⟨I3, -1, ?_, .inl ⟨by rw [hg, hne], rfl⟩, q2, q3⟩
      unfold F_X12_firstLost_40 F_X12_firstLost_61
      rw [gi_197_22 hs, Option.bind_some, cv_197 hs, q1, Option.bind_some, hb, hne, if_pos (by rfl)]
    · obtain ⟨d, d1, d2, d3⟩ := e_firstOf (mk S I3 L R n) hl hne
      have hb0 : ¬ nI (bitsN l 0) = 0 := by
        have hlt := bitsN_lt l 0 hl (by decide)
        refine nI_ne0 ?_ (by omega)
        rcases Nat.eq_zero_or_pos (bitsN l 0) with z | z
        · have t1 := bitsN_test l 0 d
          rw [z, Nat.zero_testBit, Bool.false_or, decide_eq_true d1] at t1
          cases t1
        · exact z
      refine ⟨I3, nI d, ?_, .inr ⟨d, rfl, ?_, fun e he => ?_⟩, q2, q3⟩
      · unfold F_X12_firstLost_40 F_X12_firstLost_61
        rw [gi_197_22 hs, Option.bind_some, cv_197 hs, q1, Option.bind_some, hb, if_neg hb0, d3, b2_some]
      · rw [show (1200 : Nat) = k + (1200 - k) by omega, evU_add, gLost_app, hg]
        exact List.mem_append_left _ d1
      · obtain ⟨t, t1, t2⟩ := ht hne
        rw [show (1200 : Nat) = k + (1200 - k) by omega, evU_add, gLost_app, hg] at he
        rcases List.mem_append.mp he with he | he
        · exact .inr ⟨by rw [t1 d d1, t1 e he], d2 e he⟩
        · have := t2 _ e he
          rw [t1 d d1]; exact .inl this
  intro r
  induction r with
  | zero =>
    intro g k J l hk hg h hb hl hgl ht
    obtain ⟨g, rfl⟩ : ∃ z, g = z + 1 := ⟨g - 1, by omega⟩
    simp only [F_X12_firstLost_16]
    rw [if_pos (le_li 1200 (by omega) (by omega))]
    exact fin40 k J l (by omega) h hb hl hgl (fun _ => by omega) ht
  | succ r ih =>
    intro g k J l hk hg h hb hl hgl ht
    obtain ⟨g, rfl⟩ : ∃ z, g = z + 1 := ⟨g - 1, by omega⟩
    simp only [F_X12_firstLost_16]
    rw [if_neg (ge_li 1200 (by omega) (by omega)), gi_197_22 hs, Option.bind_some, hb]
    by_cases hne : l = []
    · rw [if_pos (by rw [hne]; rfl)]
      obtain ⟨J1, q1, q2, q3⟩ := e_minK (L := L) (n := n) hs hP hB hKP hf (by omega) h
      rw [cv_197 hs, q1, Option.bind_some, nI_1]
      refine ih g (k + 1) J1 _ (by omega) (by omega) q2 q3 (fun c hc => by have := (evM_mem.mp (gLost_mem _ _ hc)).1; omega) ?_ (fun _ => ⟨M + k, fun c hc => (evM_mem.mp (gLost_mem _ _ hc)).2.2, fun z c hc => ?_⟩)
      · rw [evU_tail, gLost_app, hgl, hne, List.nil_append]
      · have := (evU_mem.mp (gLost_mem _ _ hc)).2.2.1
        omega
    · have hb0 : ¬ nI (bitsN l 0) = 0 := by
        obtain ⟨x, hx⟩ := List.exists_mem_of_ne_nil l hne
        have hlt := bitsN_lt l 0 hl (by decide)
        refine nI_ne0 ?_ (by omega)
        rcases Nat.eq_zero_or_pos (bitsN l 0) with z | z
        · have t1 := bitsN_test l 0 x
          rw [z, Nat.zero_testBit, Bool.false_or, decide_eq_true hx] at t1
          cases t1
        · exact z
      rw [if_neg hb0]
      exact fin40 k J l (by omega) h hb hl hgl (fun q => absurd q hne) ht
end FO
theorem k_firstLost (Ls : Nat) (xs : Nat → Int32) : GoodP Ls xs (F_X11_firstLost (some 128)) (F_X12_firstLost (some 197)) := by
  intro k S I L R n ⟨hl, tb, tn, fk, fp, w, tr, im, hC, hR, hG⟩
  obtain ⟨hs, hb, ⟨p, hpl, hp⟩, ⟨c1, c2⟩, hP, hRP, hRB⟩ := inv_all hC hR hG
  obtain ⟨-, g3, g4, F, T, A, D, M, hB, hM, hgo⟩ := hG.opn
  have hB' := hB.congr (fun j hj => x_cells hC hj)
  obtain ⟨p, g1, I', R', e1, e2, e3, e4, e5, e6, e7, e8, kI⟩ := x_foresee hC hP hB' (q := 1200) (by omega)
  have hB1 := hB'.congr e2
  have kb : I' 174 = I 174 := kI _ (by unfold scr; decide) (hs.nst hC.1.2.1 (by decide) (by decide))
  have hb5 : BdS S R' 170 174 175 := by
    obtain ⟨z1, z2, z3, z4⟩ := hb
    exact ⟨z1, by rw [e1, up2_ne _ _ _ (by decide)]; exact z2, by rw [e1, up2_ne _ _ _ (by decide)]; exact z3, z4⟩
  have t1 : I' 182 1 = nI w.2.1.1 := by
    rw [e4]; exact (hB1.pass hP frc0_ok (n := 1200) (by omega)).1.2.1
  obtain ⟨v, q1, q2⟩ := c_flL (L := L) (n := n) e5 hb5 (A := A) c1 (by rw [kb]; exact c2) t1 (fun c hc => by rw [kb]; exact (hB'.1.2.2 c hc).2.2.2.1) w.2.1.1 mm_N 0 (-1) (by omega) (by show w.2.1.1 < 1000000; omega) (.inl ⟨rfl, fun d hd => by omega⟩)
  have isl : ∀ d, d < w.2.1.1 → ((I' 174 (15 + 7 * d) = 0 ∧ I' 182 (15 + 7 * d) = 3) ↔ d ∈ gLost w.1 frc0 w.2.1.1 (evU g1 A w.2.1.1 M 1200) g1) := fun d hd => by
    have hl1 : ∀ c ∈ evU g1 A w.2.1.1 M 1200, c < w.2.1.1 := fun c hc => (evU_mem.mp hc).1
    have V := BV.run hP frc0_ok _ _ hB1.1 hl1
    rw [kb, ← e2 _ (by omega), e4, fin_st2 V hd (by omega)]
    constructor
    · rintro ⟨z1, z2⟩
      obtain ⟨y1, y2, -⟩ := hB1.2.2.2.2.1 d hd z1
      have hq : d ∈ evU g1 A w.2.1.1 M 1200 := evU_mem.mpr ⟨hd, z1, y1, by omega⟩
      rcases gRun_at hP frc0_ok _ g1 d hB1.1 hl1 evU_nodup hq with ⟨a1, -⟩ | ⟨-, a2, -⟩
      · exact a1
      · exfalso
        rw [a2] at z2
        by_cases y : (1 : Int32) = 1 ∧ A d + D d < M + 1200
        · rw [if_pos y] at z2; exact absurd z2 (by decide)
        · rw [if_neg y] at z2; exact absurd z2 (by decide)
    · intro hm
      have hq := gLost_mem _ _ hm
      refine ⟨(evU_mem.mp hq).2.1, ?_⟩
      rcases gRun_at hP frc0_ok _ g1 d hB1.1 hl1 evU_nodup hq with ⟨-, a2, -⟩ | ⟨a1, -⟩
      · rw [a2, if_neg (fun y => absurd y.1 (by decide))]
      · exact absurd hm a1
  have hv : FLv A (gLost w.1 frc0 w.2.1.1 (evU g1 A w.2.1.1 M 1200) g1) v := by
    have mlt : ∀ d, d ∈ gLost w.1 frc0 w.2.1.1 (evU g1 A w.2.1.1 M 1200) g1 → d < w.2.1.1 := fun d hd => (evU_mem.mp (gLost_mem _ _ hd)).1
    rcases q2 with ⟨y1, y2⟩ | ⟨b, y1, y2, y3, y4⟩
    · refine .inl ⟨List.eq_nil_iff_forall_not_mem.mpr (fun d hd => y2 d (mlt d hd) ((isl d (mlt d hd)).mpr hd)), y1⟩
    · exact .inr ⟨b, y2, (isl b y1).mp y3, fun d hd => y4 d (mlt d hd) ((isl d (mlt d hd)).mpr hd)⟩
  have hx : F_X11_firstLost (some 128) (mk S I L R n) = some (v, mk S I' L R' n) := by
    have e3' : F_X11_foresee (some 128) (1200 : Int32) (mk S I L R n) = some (nI (gLost w.1 frc0 w.2.1.1 (evU g1 A w.2.1.1 M 1200) g1).length, mk S I' L R' n) := e3
    unfold F_X11_firstLost
    rw [cv_128 hs, e3', b2_some]
    exact q1
  obtain ⟨-, r2, r3, r4⟩ := q_ref hC hR kI e2 0
  obtain ⟨I1, a1, a2, a3⟩ := e_aside (L := L) (n := n) e5 (up2 I' 197 4 0)
  have fr1 : ∀ i, i < 10 → up2 I1 197 22 0 205 i = -1 := by rw [up2_ne _ _ _ (by decide), a2 _ (by decide)]; exact r4
  have k0 : keepM I1 (up2 I1 197 22 0) := ⟨fun a q1 _ _ _ => up2_ne _ _ _ q1, fun k q => by rw [up2_row, up1_ne _ _ q], fun k _ => by rw [up2_ne _ _ _ (by decide)]⟩
  obtain ⟨I3, v', m1, mb, m2, m3⟩ := e_flL (L := L) (n := n) e5 hP hB1 a2 a3 k0 (by rw [up2_ne _ _ _ (by decide), a2 _ (by decide)]; exact r2) (frc_ok0 fr1) (by omega) 1200 mm_N 0 (up2 I1 197 22 0) [] (by omega) (by show 1200 < 1000000; omega) (MinS.zero hB1 (by omega) (by rw [up2_ne _ _ _ (by decide), a2 _ (by decide)]; exact r3)) (up2_self _ _ _ _) (fun c hc => nomatch hc) rfl (fun q => absurd rfl q)
  rw [(run_0 (P := w.1) (n := 1200) (m := M) (f := g1) (A := A) fr1 c1 g1).2] at mb
  have := mb.one hv
  subst this
  have m1' : F_X12_firstLost_16 mm_N (some 197) 0 (mk S (up2 I1 197 22 0) L R' n) = some (v', mk S I3 L R' n) := m1
  have sc : scQ I' I3 := scQ.m4.tr m2
  have fC : FrC S S I I' L L R R' := FrC.kS (L := L) hl hC.1.1 hC.1.2.1 kI (fun x q => by rw [e1, up2_ne _ _ _ q])
  refine pk_okP hl hx ?_ fC (fun a q => ⟨sc.fr a q, rfl⟩) (hC.le.kS kI (fun x q => by rw [e1, up2_ne _ _ _ q]) (by rw [e1, up2_row, up1_ne _ _ (by decide), up1_ne _ _ (by decide)]; exact ⟨rfl, rfl⟩)) (sc.inv (hR.ofC fC)) hG.le
  unfold F_X12_firstLost
  rw [pi_197_4 e5, Option.bind_some, cv_197 e5, a1, Option.bind_some, pi_197_22 e5, Option.bind_some, m1']
