/-! the most calls: the reference's search -/
def kRc (c : Nat) (I I' : mkI) : Prop := (∀ x, x ≠ 197 → x ≠ 208 → I' x = I x) ∧ (∀ j, j ≠ 28 → j ≠ 29 → I' 197 j = I 197 j) ∧ ∀ d, d < c → I' 208 d = I 208 d
theorem kRc.rf {c : Nat} {I : mkI} : kRc c I I := ⟨fun _ _ _ => rfl, fun _ _ _ => rfl, fun _ _ => rfl⟩
theorem kRc.tr {c : Nat} {I I' I'' : mkI} (h : kRc c I I') (h2 : kRc c I' I'') : kRc c I I'' := ⟨fun x a b => (h2.1 x a b).trans (h.1 x a b), fun j a b => (h2.2.1 j a b).trans (h.2.1 j a b), fun d q => (h2.2.2 d q).trans (h.2.2 d q)⟩
theorem kRc.lo {c : Nat} {I I' : mkI} (h : kRc (c + 1) I I') : kRc c I I' := ⟨h.1, h.2.1, fun d q => h.2.2 d (by omega)⟩
theorem kRc.up {c : Nat} {I : mkI} {x : Int32} : kRc c I (up2 I 208 c x) := ⟨fun y _ b => up2_ne _ _ _ b, fun j _ _ => by rw [up2_ne _ _ _ (by decide)], fun d q => by rw [up2_row, up1_ne _ _ (by omega)]⟩
theorem kRow_up {κ : KP} {c : Nat} {o : Option Nat} {I : mkI} (h : ∀ d, d < c → I 208 d = kRow κ d) : ∀ d, d < c + 1 → up2 I 208 c (match o with | none => -1 | some k => nI k) 208 d = kRow (up1 κ c o) d := fun d hd => by
  rw [up2_row]
  unfold kRow
  by_cases e : d = c
  · rw [e, up1_self, up1_self]; cases o <;> rfl
  · rw [up1_ne _ _ e, up1_ne _ _ e, h d (by omega)]; rfl
theorem I28_le {a : BA} (ha : BAok a) {x : Nat} (hx : x < 1000) : (I28 a ≤ nI x) ↔ ¬ (∃ p, a = some p ∧ x < p.1) := by
  cases a with
  | none => exact ⟨fun _ q => (by obtain ⟨p, h, -⟩ := q; cases h), fun _ => by
      rw [show I28 none = -1 from rfl, Int32.le_iff_toInt_le, nI_toInt (by omega), show (-1 : Int32).toInt = -1 by decide]; omega⟩
  | some p =>
    have h1 : p.1 ≤ 10 := ha.1
    rw [show I28 (some p) = nI p.1 from rfl]
    constructor
    · rintro h ⟨q, e, hq⟩
      cases e
      exact nI_ge hq (by omega) h
    · intro h
      exact nI_le (Nat.le_of_not_lt fun z => h ⟨p, rfl, z⟩) (by omega)
theorem foldl_id {p : Nat → Bool} {g : BA → Nat → BA} : ∀ (l : List Nat) (a : BA), (∀ k ∈ l, p k = false) → l.foldl (fun a k => if p k = true then g a k else a) a = a
  | [], _, _ => rfl
  | k :: l, a, h => by
    rw [List.foldl_cons, h k List.mem_cons_self, if_neg Bool.false_ne_true]
    exact foldl_id l a (fun j hj => h j (List.mem_cons_of_mem _ hj))
section EG
variable {S : mkS} {L : mkL} {R : mkR} {n : Nat × Nat} {P : PL} {C M : Nat} {f : Nat → Int32} {F T A D : Nat → Nat}
/-- what the search keeps -/
def GSt (P : PL) (C : Nat) (f : Nat → Int32) (told : Bool) (K : Nat) (I : mkI) : Prop := RPlan P (I 198) ∧ RBoard C f (I 198) ∧ I 197 27 = nI K ∧ I 197 30 = b2i told
theorem GSt.k {told : Bool} {K c : Nat} {I I' : mkI} (h : GSt P C f told K I) (k : kRc c I I') : GSt P C f told K I' := by
  unfold GSt
  rw [k.1 _ (by decide) (by decide), k.2.1 27 (by decide) (by decide), k.2.1 30 (by decide) (by decide)]
  exact h
def BIn (a : BA) (I : mkI) : Prop := I 197 28 = I28 a ∧ I 197 29 = I29 a ∧ BAok a
theorem e_leaf (hs : St S R) {told : Bool} {K : Nat} {I : mkI} (hG : GSt P C f told K I) {s : Nat} (h : s < 1024) {a : BA} (ha : BIn a I) {p : PT_X12_goesCalls} : ∃ I', F_X12_goesCalls p (some 197) (nI C) (nI s) (mk S I L R n) = some (mk S I' L R n) ∧ BIn (lfA s a) I' ∧ kRc C I I' := by
  obtain ⟨a1, a2, a3⟩ := ha
  have kn : I 198 7 = nI C := by rw [hG.2.1.2.2.2.1, hG.2.1.2.1]
  have hp := pcn_10 s h
  have lay : ∃ I', F_X12_goesCalls_39 p (some 197) (nI s) (mk S I L R n) = some (mk S I' L R n) ∧ BIn (some (pcn s, s)) I' ∧ kRc C I I' := by
    refine ⟨up2 (up2 I 197 28 (nI (pcn s))) 197 29 (nI s), ?_, ⟨?_, ?_, hp, h⟩, fun x b _ => by rw [up2_ne _ _ _ b, up2_ne _ _ _ b], fun j b1 b2 => by rw [up2_row, up1_ne _ _ b2, up2_row, up1_ne _ _ b1], fun d _ => by rw [up2_ne _ _ _ (by decide), up2_ne _ _ _ (by decide)]⟩
    · unfold F_X12_goesCalls_39
      rw [e_size h, b2_some, pi_197_28 hs, Option.bind_some, pi_197_29 hs, Option.bind_some]
    · rw [up2_row, up1_ne _ _ (by decide), up2_self]; rfl
    · rw [up2_self]; rfl
  unfold F_X12_goesCalls F_X12_goesCalls_38
  rw [cv_197 hs, e_calls hs, b2_some, kn, if_pos rfl, e_size h, b2_some, gi_197_28 hs, Option.bind_some, e_size h, b2_some, gi_197_28 hs, Option.bind_some, gi_197_29 hs, Option.bind_some, a1, a2]
  cases a with
  | none =>
    rw [show I28 none = -1 from rfl, if_neg (fun z => by
      rw [Int32.lt_iff_toInt_lt, nI_toInt (by omega), show (-1 : Int32).toInt = -1 by decide] at z; omega), if_neg (nI_nm1 (by omega))]
    exact lay
  | some q =>
    obtain ⟨q1, q2⟩ := a3
    rw [show I28 (some q) = nI q.1 from rfl, show I29 (some q) = nI q.2 from rfl]
    have e0 : lfA s (some q) = if q.1 < pcn s ∨ (q.1 = pcn s ∧ s < q.2) then some (pcn s, s) else some q := rfl
    rw [e0]
    have same : ∃ I', some (mk S I L R n) = some (mk S I' L R n) ∧ BIn (some q) I' ∧ kRc C I I' := ⟨I, rfl, ⟨a1, a2, q1, q2⟩, kRc.rf⟩
    by_cases z1 : pcn s < q.1
    · rw [if_pos (nI_lt z1 (by omega)), if_neg (by omega)]; exact same
    · rw [if_neg (nI_nlt (by omega) (by omega))]
      by_cases z2 : pcn s = q.1
      · rw [if_pos (by rw [z2])]
        by_cases z3 : s < q.2
        · rw [if_pos (nI_lt z3 (by omega)), if_pos (.inr ⟨z2.symm, z3⟩)]; exact lay
        · rw [if_neg (nI_nlt (by omega) (by omega)), if_neg (by omega)]; exact same
      · rw [if_neg (fun z => z2 ((nI_eq (by omega) (by omega)).mp z)), if_pos (.inl (by omega))]; exact lay
theorem e_goesC (hs : St S R) (hP : PlOK P) (hV : BV P C f F T A D) (h0 : f 0 = nI M) (hM : M ≤ 300000) {told : Bool} {K : Nat} (hK : K ≤ 3) (hKt : told = true → K ≤ pC P) : ∀ (r g c s : Nat) (κ : KP) (a : BA) (I : mkI), c + r = C → r < g → GSt P C f told K I → (∀ d, d < c → I 208 d = kRow κ d) → (∀ d k', d < c → κ d = some k' → k' < 3 ∧ f (15 + 7 * d) = 0) → s < 2 ^ c → BIn a I → ∃ I', G_X12_goesCalls g (some 197) (nI c) (nI s) (mk S I L R n) = some (mk S I' L R n) ∧ BIn (gC (bQ P told C f F T A D M) K r c s κ a) I' ∧ kRc c I I' := by
  have hC := hV.1
  have hp2 : ∀ c, c ≤ 10 → 2 ^ c ≤ 2 ^ 10 := fun c h => Nat.pow_le_pow_right (by decide) h
  intro r
  induction r with
  | zero =>
    intro g c s κ a I hc hg hG hκ hκ2 hsz ha
    obtain ⟨g, rfl⟩ : ∃ y, g = y + 1 := ⟨g - 1, by omega⟩
    have hcC : c = C := by omega
    subst hcC
    have := hp2 c hC
    exact e_leaf (L := L) (n := n) hs hG (by omega) ha (p := G_X12_goesCalls g)
  | succ r ih =>
    intro g c s κ a I hc hg hG hκ hκ2 hsz ha
    obtain ⟨g, rfl⟩ : ∃ y, g = y + 1 := ⟨g - 1, by omega⟩
    have hcC : c < C := by omega
    have hs10 : s < 1024 := by have := hp2 c (by omega); omega
    have hp := pcn_10 s hs10
    have kn : ∀ {I : mkI}, GSt P C f told K I → I 198 7 = nI C := fun hG => by rw [hG.2.1.2.2.2.1, hG.2.1.2.1]
    obtain ⟨-, -, -, ⟨vc3, vcA⟩, -⟩ := hV.2.2 c hcC
    show ∃ I', F_X12_goesCalls (G_X12_goesCalls g) _ _ _ _ = _ ∧ _
    rw [gC]
    unfold F_X12_goesCalls
    rw [cv_197 hs, e_calls hs, b2_some, kn hG, if_neg (fun z => by have := (nI_eq (by omega) (by omega)).mp z; omega), e_size hs10, b2_some, cv_197 hs, e_calls hs, b2_some, kn hG, gi_197_28 hs, Option.bind_some, ha.1, nI_add, nI_sub (a := pcn s + C) (b := c) (by omega), show pcn s + C - c = pcn s + (r + 1) by omega]
    by_cases e : prn s (r + 1) a = true
    · rw [if_pos e, if_neg (fun z => (I28_le ha.2.2 (by omega)).mp z (by
        cases a with
        | none => cases e
        | some p => exact ⟨p, rfl, of_decide_eq_true e⟩))]
      exact ⟨I, rfl, ha, kRc.rf⟩
    rw [if_neg e, if_pos ((I28_le ha.2.2 (by omega)).mpr (fun ⟨p, q1, q2⟩ => e (by rw [q1]; exact decide_eq_true q2))), gr_197_26 hs, Option.bind_some, si_208 hs (by omega), Option.bind_some, cv_197 hs, nI_1]
    obtain ⟨I1, z1, z2, z3⟩ := ih g (c + 1) s (up1 κ c none) a (up2 I 208 c (-1)) (by omega) (by omega) (hG.k kRc.up) (kRow_up (o := none) hκ) (fun d k' hd q => by
      by_cases e : d = c
      · rw [e, up1_self] at q; cases q
      · rw [up1_ne _ _ e] at q; exact hκ2 d k' (by omega) q) (Nat.lt_of_lt_of_le hsz (Nat.pow_le_pow_right (by decide) (by omega))) ⟨by rw [up2_ne _ _ _ (by decide)]; exact ha.1, by rw [up2_ne _ _ _ (by decide)]; exact ha.2.1, ha.2.2⟩
    have k1 : kRc c I I1 := kRc.up.tr z3.lo
    rw [z1, Option.bind_some]
    obtain ⟨a1, ha1⟩ : ∃ a1, a1 = gC (bQ P told C f F T A D M) K r (c + 1) s (up1 κ c none) a := ⟨_, rfl⟩
    rw [← ha1] at z2 ⊢
    have hG1 := hG.k k1
    clear z1 z3 ha1
    have eE : qE (bQ P told C f F T A D M) c = (decide (f (15 + 7 * c) = 0) && (decide (M ≤ A c) && (frB C f (F c) (A c) && frB C f (T c) (A c)))) := rfl
    by_cases hq : f (15 + 7 * c) = 0 ∧ M ≤ A c
    · obtain ⟨q0, qM⟩ := hq
      have loop : ∀ (z y k : Nat) (I2 : mkI) (b : BA), k + z = K → z < y → kRc c I I2 → BIn b I2 → ∃ I', F_X12_goesCalls_89 (G_X12_goesCalls g) y (some 197) (nI c) (nI s) (nI k) (mk S I2 L R n) = some (mk S I' L R n) ∧ BIn ((List.range' k z).foldl (fun a k => if okBb (bQ P told C f F T A D M) k c κ = true then gC (bQ P told C f F T A D M) K r (c + 1) (s ||| 2 ^ c) (up1 κ c (some k)) a else a) b) I' ∧ kRc c I I' := by
        intro z
        induction z with
        | zero =>
          intro y k I2 b hk hy k2 hb
          obtain ⟨y, rfl⟩ : ∃ x, y = x + 1 := ⟨y - 1, by omega⟩
          refine ⟨I2, ?_, hb, k2⟩
          simp only [F_X12_goesCalls_89]
          rw [gi_197_27 hs, Option.bind_some, (hG.k k2).2.2.1, if_pos (nI_le (by omega) (by omega))]
          rfl
        | succ z ihz =>
          intro y k I2 b hk hy k2 hb
          obtain ⟨y, rfl⟩ : ∃ x, y = x + 1 := ⟨y - 1, by omega⟩
          have hG2 := hG.k k2
          obtain ⟨-, -, b3, -, b5, -⟩ := hG2.2.1.2.2.2.2.2.2 c hcC
          have b0 : I2 198 47 = nI M := by rw [hG2.2.1.2.2.1, h0]
          have r1 : aI (mk S I2 L R n) (some 198) 0 (8 + nI c) = some 0 := rk hs (z := 8) (by omega) (b5.trans q0)
          have r2 : aI (mk S I2 L R n) (some 198) 0 (71 + nI c) = some (nI (A c)) := rk hs (z := 71) (by omega) (b3.trans vc3)
          have r3 : aI (mk S I2 L R n) (some 198) 0 47 = some (nI M) := by rw [← b0]; exact ai_198 (k := 47) hs (by omega)
          have hκI2 : ∀ d, d < c → I2 208 d = kRow κ d := fun d hd => by rw [k2.2.2 d hd]; exact hκ d hd
          have hcd := e_could (L := L) (n := n) (M := M) hs hP hV hG2.1 hG2.2.1 hG2.2.2.2 (κ := κ) (c := c) (k := k) hcC (by omega) (fun ht => by have := hKt ht; omega) hκI2 hκ2 q0 qM
          simp only [F_X12_goesCalls_89, F_X12_goesCalls_166]
          rw [gi_197_27 hs, Option.bind_some, hG2.2.2.1, if_neg (nI_ge (by omega) (by omega)), gr_197_0 hs, Option.bind_some, r1, Option.bind_some, if_pos rfl, Option.bind_some, r2, Option.bind_some, Option.bind_some, r3, Option.bind_some, if_neg (nI_nlt (by omega) (by omega)), cv_197 hs, hcd, b2_some, List.range'_succ, List.foldl_cons]
          cases eo : okBb (bQ P told C f F T A D M) k c κ with
          | false =>
            rw [if_pos (show b2i false = 0 from rfl), if_neg Bool.false_ne_true, nI_1]
            exact ihz y (k + 1) I2 b (by omega) (by omega) k2 hb
          | true =>
            rw [if_neg (show ¬ b2i true = 0 by decide), if_pos rfl, gr_197_26 hs, Option.bind_some, si_208 hs (by omega), Option.bind_some, cv_197 hs, sh1 (show c < 31 by omega), nI_or, nI_1, nI_1]
            obtain ⟨I3, y1, y2, y3⟩ := ih g (c + 1) (s ||| 2 ^ c) (up1 κ c (some k)) b (up2 I2 208 c (nI k)) (by omega) (by omega) (hG2.k kRc.up) (kRow_up (o := some k) hκI2) (fun d k' hd q => by
              by_cases e : d = c
              · rw [e, up1_self] at q; cases q; exact ⟨by omega, by rw [e]; exact q0⟩
              · rw [up1_ne _ _ e] at q; exact hκ2 d k' (by omega) q) (or_lt2 hsz) ⟨by rw [up2_ne _ _ _ (by decide)]; exact hb.1, by rw [up2_ne _ _ _ (by decide)]; exact hb.2.1, hb.2.2⟩
            rw [y1, Option.bind_some, gr_197_26 hs, Option.bind_some, si_208 hs (by omega), Option.bind_some]
            exact ihz y (k + 1) (up2 I3 208 c (-1)) _ (by omega) (by omega) ((k2.tr (kRc.up.tr y3.lo)).tr kRc.up) ⟨by rw [up2_ne _ _ _ (by decide)]; exact y2.1, by rw [up2_ne _ _ _ (by decide)]; exact y2.2.1, y2.2.2⟩
      exact loop K mm_N 0 I1 a1 (by omega) (by show K < 1000000; omega) k1 z2
    · have hno : ∀ k ∈ List.range' 0 K, okBb (bQ P told C f F T A D M) k c κ = false := fun k _ => by
        unfold okBb
        rw [eE]
        by_cases q1 : f (15 + 7 * c) = 0
        · rw [decide_eq_false (fun z => hq ⟨q1, z⟩), Bool.false_and, Bool.and_false, Bool.false_and]
        · rw [decide_eq_false q1, Bool.false_and, Bool.false_and]
      rw [foldl_id (p := fun k => okBb (bQ P told C f F T A D M) k c κ) (g := fun a k => gC (bQ P told C f F T A D M) K r (c + 1) (s ||| 2 ^ c) (up1 κ c (some k)) a) _ _ hno]
      refine ⟨I1, ?_, z2, k1⟩
      obtain ⟨-, -, b3, -, b5, -⟩ := hG1.2.1.2.2.2.2.2.2 c hcC
      have b0 : I1 198 47 = nI M := by rw [hG1.2.1.2.2.1, h0]
      have r1 : aI (mk S I1 L R n) (some 198) 0 (8 + nI c) = some (f (15 + 7 * c)) := rk hs (z := 8) (by omega) b5
      have r2 : aI (mk S I1 L R n) (some 198) 0 (71 + nI c) = some (nI (A c)) := rk hs (z := 71) (by omega) (b3.trans vc3)
      have r3 : aI (mk S I1 L R n) (some 198) 0 47 = some (nI M) := by rw [← b0]; exact ai_198 (k := 47) hs (by omega)
      obtain ⟨g2, eg⟩ : ∃ g2, mm_N = g2 + 1 := ⟨mm_N - 1, by unfold mm_N; omega⟩
      rw [eg]
      simp only [F_X12_goesCalls_89, F_X12_goesCalls_172]
      rw [gi_197_27 hs, Option.bind_some, gr_197_0 hs, Option.bind_some, r1, Option.bind_some]
      by_cases y0 : I1 197 27 ≤ 0
      · rw [if_pos y0]
      · rw [if_neg y0]
        by_cases y1 : f (15 + 7 * c) = 0
        · rw [if_pos y1, Option.bind_some, r2, Option.bind_some, Option.bind_some, r3, Option.bind_some, if_pos (nI_lt (Nat.lt_of_not_le (fun z => hq ⟨y1, z⟩)) (by omega))]
        · rw [if_neg y1]
end EG
