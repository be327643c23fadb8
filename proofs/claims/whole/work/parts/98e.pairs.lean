/-! pairs: what both sides survey -/
def fac : Nat → Nat
  | 0 => 1
  | r + 1 => (r + 1) * fac r
theorem foldl_le {f : PA → Nat → PA} {K : Nat} (h : ∀ a m, (f a m).1 ≤ a.1 + K) : ∀ (l : List Nat) (a : PA), (l.foldl f a).1 ≤ a.1 + l.length * K
  | [], a => by simp
  | m :: l, a => by
    have h1 := foldl_le h l (f a m)
    have h2 := h a m
    have e : (l.length + 1) * K = l.length * K + K := Nat.succ_mul _ _
    rw [List.foldl_cons, List.length_cons, e]
    omega
theorem foldl_inv {f : PA → Nat → PA} {Q : PA → Prop} (h : ∀ a m, Q a → Q (f a m)) : ∀ (l : List Nat) (a : PA), Q a → Q (l.foldl f a)
  | [], _, q => q
  | m :: l, a, q => foldl_inv h l (f a m) (h a m q)
theorem aWeigh_le (P : PL) (w : Nat → Int32) (a : PA) : (aWeigh P w a).1 ≤ a.1 + 1 := by
  unfold aWeigh
  show (if aPart P w = -1 then a.1 + 1 else a.1) ≤ _
  split <;> omega
theorem aPF_le (P : PL) : ∀ (r l : Nat) (w : Nat → Int32) (b : Bool) (a : PA), (aPF P r l w b a).1 ≤ a.1 + fac r
  | 0, l, w, b, a => aWeigh_le P w a
  | r + 1, l, w, b, a => by
    have hf : ∀ (a : PA) (m : Nat), ((fun a m => if w m = -2 then aPF P r (l + 1) (up1 (up1 w l (nI m)) m (nI l)) b a else a) a m).1 ≤ a.1 + fac r := fun a m => by
      show (if w m = -2 then aPF P r (l + 1) (up1 (up1 w l (nI m)) m (nI l)) b a else a).1 ≤ _
      split
      · exact aPF_le P r (l + 1) _ b a
      · omega
    have h1 := foldl_le hf (List.range' (l + 1) r) a
    rw [List.length_range'] at h1
    have e : fac (r + 1) = r * fac r + fac r := Nat.succ_mul _ _
    unfold aPF
    by_cases h : w l = -2
    · rw [if_pos h, e]
      split
      · have := aPF_le P r (l + 1) (up1 w l (-1)) true ((List.range' (l + 1) r).foldl (fun a m => if w m = -2 then aPF P r (l + 1) (up1 (up1 w l (nI m)) m (nI l)) b a else a) a)
        omega
      · omega
    · rw [if_neg h, e]
      have := aPF_le P r (l + 1) w b a
      omega
/-- what holds of every survey -/
def QP (P : PL) (a : PA) : Prop := (∀ l, pW P ≤ l → a.2.1 l = -1 ∧ a.2.2.2.2 l = -1) ∧ (a.1 = 0 → ∀ l, a.2.1 l = -1) ∧ (a.2.2.1 = false → a.2.2.2.1 = 0 ∧ ∀ l, a.2.2.2.2 l = -1)
theorem aWeigh_Q {P : PL} (w : Nat → Int32) {a : PA} (h : QP P a) : QP P (aWeigh P w a) := by
  obtain ⟨h1, h2, h3⟩ := h
  have hc : ∀ l, pW P ≤ l → aCutW P w l = -1 := fun l hl => if_neg (by omega)
  unfold aWeigh
  refine ⟨fun l hl => ⟨?_, ?_⟩, fun h l => ?_, fun h => ?_⟩
  · show (if aPart P w = -1 ∧ a.1 = 0 then aCutW P w else a.2.1) l = -1
    split
    · exact hc l hl
    · exact (h1 l hl).1
  · show (if a.2.2.1 = false ∨ a.2.2.2.1 < aSumL P w (pW P) 0 0 then (true, aSumL P w (pW P) 0 0, aCutW P w) else a.2.2).2.2 l = -1
    split
    · exact hc l hl
    · exact (h1 l hl).2
  · have h' : (if aPart P w = -1 then a.1 + 1 else a.1) = 0 := h
    show (if aPart P w = -1 ∧ a.1 = 0 then aCutW P w else a.2.1) l = -1
    by_cases e : aPart P w = -1
    · rw [if_pos e] at h'; omega
    · rw [if_neg e] at h'
      rw [if_neg (fun q => e q.1)]; exact h2 h' l
  · have h' : (if a.2.2.1 = false ∨ a.2.2.2.1 < aSumL P w (pW P) 0 0 then (true, aSumL P w (pW P) 0 0, aCutW P w) else a.2.2).1 = false := h
    show (if a.2.2.1 = false ∨ a.2.2.2.1 < aSumL P w (pW P) 0 0 then (true, aSumL P w (pW P) 0 0, aCutW P w) else a.2.2).2.1 = 0 ∧ ∀ l, (if a.2.2.1 = false ∨ a.2.2.2.1 < aSumL P w (pW P) 0 0 then (true, aSumL P w (pW P) 0 0, aCutW P w) else a.2.2).2.2 l = -1
    by_cases e : a.2.2.1 = false ∨ a.2.2.2.1 < aSumL P w (pW P) 0 0
    · rw [if_pos e] at h'; cases h'
    · rw [if_neg e] at h' ⊢; exact h3 h'
theorem aPF_inv {P : PL} {Q : PA → Prop} (hw : ∀ w a, Q a → Q (aWeigh P w a)) : ∀ (r l : Nat) (w : Nat → Int32) (b : Bool) (a : PA), Q a → Q (aPF P r l w b a)
  | 0, _, w, _, a, q => hw w a q
  | r + 1, l, w, b, a, q => by
    have h1 : Q ((List.range' (l + 1) r).foldl (fun a m => if w m = -2 then aPF P r (l + 1) (up1 (up1 w l (nI m)) m (nI l)) b a else a) a) := foldl_inv (fun a m q => by
      show Q (if w m = -2 then aPF P r (l + 1) (up1 (up1 w l (nI m)) m (nI l)) b a else a)
      split
      · exact aPF_inv hw r _ _ _ _ q
      · exact q) _ _ q
    unfold aPF
    split
    · split
      · exact aPF_inv hw r _ _ _ _ h1
      · exact h1
    · exact aPF_inv hw r _ _ _ _ q
theorem aPF_Q {P : PL} (r l : Nat) (w : Nat → Int32) (b : Bool) (a : PA) (h : QP P a) : QP P (aPF P r l w b a) := aPF_inv (fun w _ q => aWeigh_Q w q) r l w b a h
theorem aPF_any {P : PL} (r l : Nat) (w : Nat → Int32) (b : Bool) (a : PA) (h : a.2.2.1 = true) : (aPF P r l w b a).2.2.1 = true := aPF_inv (Q := fun a => a.2.2.1 = true) (fun w a (q : a.2.2.1 = true) => by
  unfold aWeigh
  show (if a.2.2.1 = false ∨ a.2.2.2.1 < aSumL P w (pW P) 0 0 then (true, aSumL P w (pW P) 0 0, aCutW P w) else a.2.2).1 = true
  split
  · rfl
  · exact q) r l w b a h
theorem foldl_hit {f : PA → Nat → PA} {Q : PA → Prop} (h : ∀ a m, Q a → Q (f a m)) {m : Nat} (hm : ∀ a, Q (f a m)) : ∀ (l : List Nat) (a : PA), m ∈ l → Q (l.foldl f a)
  | [], _, q => absurd q (List.not_mem_nil)
  | x :: l, a, q => by
    rcases List.mem_cons.mp q with e | e
    · exact foldl_inv h l (f a x) (e ▸ hm a)
    · exact foldl_hit h hm l (f a x) e
/-- whether there is a way to pair at all -/
def aHL (o : Bool) : Nat → Nat → (Nat → Bool) → Bool → Bool
  | 0, _, _, _ => true
  | r + 1, l, f, b => if f l = true then ((List.range' (l + 1) r).any fun m => f m && aHL o r (l + 1) (fun j => decide (j ≠ l) && (decide (j ≠ m) && f j)) b) || (o && (!b && aHL o r (l + 1) (fun j => decide (j ≠ l) && f j) true)) else aHL o r (l + 1) f b
theorem aWeigh_any (P : PL) (w : Nat → Int32) (a : PA) : (aWeigh P w a).2.2.1 = true := by
  unfold aWeigh
  show (if a.2.2.1 = false ∨ a.2.2.2.1 < aSumL P w (pW P) 0 0 then (true, aSumL P w (pW P) 0 0, aCutW P w) else a.2.2).1 = true
  split
  · rfl
  · rename_i h
    cases h2 : a.2.2.1 with
    | true => rfl
    | false => exact absurd (.inl h2) h
theorem aPF_hl (P : PL) (hW : pW P ≤ 8) : ∀ (r l : Nat) (w : Nat → Int32) (b : Bool) (a : PA) (f : Nat → Bool), l + r ≤ 8 → (∀ j, f j = true → w j = -2) → (∀ j, f j = false → w j ≠ -2) → aHL (decide (pW P % 2 = 1)) r l f b = true → (aPF P r l w b a).2.2.1 = true
  | 0, _, w, _, a, _, _, _, _, _ => aWeigh_any P w a
  | r + 1, l, w, b, a, f, hl, h1, h2, h => by
    have hm2 : ∀ m, m < 8 → nI m ≠ -2 := by decide
    have mono : ∀ (a : PA) (m : Nat), a.2.2.1 = true → ((fun a m => if w m = -2 then aPF P r (l + 1) (up1 (up1 w l (nI m)) m (nI l)) b a else a) a m).2.2.1 = true := fun a m q => by
      show (if w m = -2 then aPF P r (l + 1) (up1 (up1 w l (nI m)) m (nI l)) b a else a).2.2.1 = true
      split
      · exact aPF_any _ _ _ _ _ q
      · exact q
    unfold aHL at h
    unfold aPF
    by_cases e : f l = true
    · rw [if_pos e] at h
      rw [if_pos (h1 l e)]
      rw [Bool.or_eq_true] at h
      rcases h with h | h
      · rw [List.any_eq_true] at h
        obtain ⟨m, m1, m2⟩ := h
        rw [Bool.and_eq_true] at m2
        have m3 := List.mem_range'_1.mp m1
        have hit : ((List.range' (l + 1) r).foldl (fun a m => if w m = -2 then aPF P r (l + 1) (up1 (up1 w l (nI m)) m (nI l)) b a else a) a).2.2.1 = true := foldl_hit (Q := fun a => a.2.2.1 = true) (m := m) mono (fun a => by
          show (if w m = -2 then aPF P r (l + 1) (up1 (up1 w l (nI m)) m (nI l)) b a else a).2.2.1 = true
          rw [if_pos (h1 m m2.1)]
          refine aPF_hl P hW r (l + 1) _ b a (fun j => decide (j ≠ l) && (decide (j ≠ m) && f j)) (by omega) (fun j hj => ?_) (fun j hj => ?_) m2.2
          · simp only [Bool.and_eq_true, decide_eq_true_eq] at hj
            rw [up1_ne _ _ hj.2.1, up1_ne _ _ hj.1]; exact h1 j hj.2.2
          · by_cases z1 : j = m
            · subst z1; rw [up1_self]; exact hm2 l (by omega)
            · rw [up1_ne _ _ z1]
              by_cases z2 : j = l
              · subst z2; rw [up1_self]; exact hm2 m (by omega)
              · rw [up1_ne _ _ z2]
                refine h2 j ?_
                rw [decide_eq_true z1, decide_eq_true z2] at hj
                exact hj) _ _ m1
        split
        · exact aPF_any _ _ _ _ _ hit
        · exact hit
      · simp only [Bool.and_eq_true, Bool.not_eq_true', decide_eq_true_eq] at h
        obtain ⟨o1, o2, o3⟩ := h
        rw [if_pos ⟨o1, o2⟩]
        refine aPF_hl P hW r (l + 1) _ true _ (fun j => decide (j ≠ l) && f j) (by omega) (fun j hj => ?_) (fun j hj => ?_) o3
        · simp only [Bool.and_eq_true, decide_eq_true_eq] at hj
          rw [up1_ne _ _ hj.1]; exact h1 j hj.2
        · by_cases z2 : j = l
          · subst z2; rw [up1_self]; decide
          · rw [up1_ne _ _ z2]
            refine h2 j ?_
            rw [decide_eq_true z2] at hj
            exact hj
    · have e' : f l = false := by simpa using e
      rw [if_neg e] at h
      rw [if_neg (h2 l e')]
      exact aPF_hl P hW r (l + 1) w b a f (by omega) h1 h2 h
theorem aHL_ok : ∀ W, W < 9 → 2 ≤ W → aHL (decide (W % 2 = 1)) W 0 (fun _ => true) false = true := by decide +kernel
theorem aSurvey_ok {P : PL} (hP : PlOK P) : QP P (aSurvey P) ∧ (aSurvey P).2.2.1 = true ∧ (aSurvey P).1 ≤ 40320 := by
  have w1 := hP.1
  have w2 := hP.2.1
  refine ⟨aPF_Q _ _ _ _ _ ⟨fun _ _ => ⟨rfl, rfl⟩, fun _ _ => rfl, fun _ => ⟨rfl, fun _ => rfl⟩⟩, aPF_hl P w2 _ _ _ _ _ (fun _ => true) (by omega) (fun _ _ => rfl) (fun _ h => by cases h) (aHL_ok _ (by omega) w1), ?_⟩
  have h1 := aPF_le P (pW P) 0 (fun _ => -2) false (0, fun _ => -1, false, 0, fun _ => -1)
  have h2 : ∀ W, W < 9 → fac W ≤ 40320 := by decide
  have := h2 _ (show pW P < 9 by omega)
  unfold aSurvey
  omega
theorem cpyW {f g : Nat → Int32} {j W : Nat} : va_cpy f g 0 0 W j = if j < W then f j else g j := by
  show (if 0 ≤ j ∧ j < 0 + W then f (0 + (j - 0)) else g j) = _
  by_cases h : j < W
  · rw [if_pos ⟨by omega, by omega⟩, if_pos h, Nat.zero_add, Nat.sub_zero]
  · rw [if_neg (by omega), if_neg h]
/-! the class -/
def CPq (b : Bool) (a : PA) (I : mkI) : Prop := I 157 4 = b2i b ∧ I 157 5 = nI a.1 ∧ I 157 6 = b2i a.2.2.1 ∧ I 157 7 = a.2.2.2.1 ∧ ∀ l, l < 8 → I 159 l = a.2.1 l ∧ I 160 l = a.2.2.2.2 l
def kPr (I I' : mkI) : Prop := ∀ x, x ≠ 157 → x ≠ 158 → x ≠ 159 → x ≠ 160 → I' x = I x
theorem kPr.rf {I : mkI} : kPr I I := fun _ _ _ _ _ => rfl
theorem kPr.tr {I I' I'' : mkI} (h : kPr I I') (h2 : kPr I' I'') : kPr I I'' := fun x a b c d => (h2 x a b c d).trans (h x a b c d)
theorem kPr.up {I : mkI} {x k : Nat} {v : Int32} (hx : x = 157 ∨ x = 158 ∨ x = 159 ∨ x = 160) : kPr I (up2 I x k v) := fun y a b c d => up2_ne _ _ _ (by rcases hx with e | e | e | e <;> rw [e] <;> assumption)
def WP (W l : Nat) (w : Nat → Int32) : Prop := (∀ j, j < W → w j = -2 ∨ w j = -1 ∨ ∃ s, s < W ∧ w j = nI s) ∧ ∀ j, j < l → w j ≠ -2
theorem WP.v {W : Nat} {w : Nat → Int32} (h : WP W W w) : WV W w := fun l hl => (h.1 l hl).resolve_left (h.2 l hl)
theorem nI_m2 {k : Nat} (h : k < 2147483648) : nI k ≠ -2 := fun e => by
  have := congrArg Int32.toInt e
  rw [nI_toInt h, show (-2 : Int32).toInt = -2 by decide] at this
  omega
theorem WP.two {W l m : Nat} {w : Nat → Int32} (h : WP W l w) (hl : l < W) (hm : m < W) (hW : W ≤ 8) : WP W (l + 1) (up1 (up1 w l (nI m)) m (nI l)) := by
  refine ⟨fun j hj => ?_, fun j hj => ?_⟩
  · by_cases z : j = m
    · subst z; rw [up1_self]; exact .inr (.inr ⟨l, hl, rfl⟩)
    · rw [up1_ne _ _ z]
      by_cases y : j = l
      · subst y; rw [up1_self]; exact .inr (.inr ⟨m, hm, rfl⟩)
      · rw [up1_ne _ _ y]; exact h.1 j hj
  · by_cases z : j = m
    · subst z; rw [up1_self]; exact nI_m2 (by omega)
    · rw [up1_ne _ _ z]
      by_cases y : j = l
      · subst y; rw [up1_self]; exact nI_m2 (by omega)
      · rw [up1_ne _ _ y]; exact h.2 j (by omega)
theorem WP.one {W l : Nat} {w : Nat → Int32} (h : WP W l w) (hl : l < W) : WP W (l + 1) (up1 w l (-1)) := by
  refine ⟨fun j hj => ?_, fun j hj => ?_⟩
  · by_cases y : j = l
    · subst y; rw [up1_self]; exact .inr (.inl rfl)
    · rw [up1_ne _ _ y]; exact h.1 j hj
  · by_cases y : j = l
    · subst y; rw [up1_self]; decide
    · rw [up1_ne _ _ y]; exact h.2 j (by omega)
section CPF
variable {S : mkS} {L : mkL} {R : mkR} {n : Nat × Nat} {P : PL} {p : Nat}
theorem CPlan.pr {I I' : mkI} (h : CPlan P S R I p) (hk : kPr I I') : CPlan P S R I' p := h.kk (fun x hx _ => hk x (by unfold pa at hx; show x ≠ 157; omega) (by unfold pa at hx; show x ≠ 158; omega) (by unfold pa at hx; show x ≠ 159; omega) (by unfold pa at hx; show x ≠ 160; omega)) (fun _ _ => rfl)
theorem c_sumL (hs : St S R) (hP : PlOK P) {I : mkI} (hp : CPlan P S R I p) {w : Nat → Int32} (hw : ∀ l, l < pW P → I 158 l = w l) (hv : WV (pW P) w) : ∀ (r g l : Nat) (x : Int32), l + r = pW P → r < g → F_X6_weigh_50 g (some 157) (some p) x (nI l) (mk S I L R n) = F_X6_weigh_82 (some 157) (some p) (aSumL P w r l x) (mk S I L R n) := by
  have w2 := hP.2.1
  intro r
  induction r with
  | zero =>
    intro g l x hl hg
    obtain ⟨g, rfl⟩ : ∃ y, g = y + 1 := ⟨g - 1, by omega⟩
    simp only [F_X6_weigh_50]
    rw [pl_0 hp, Option.bind_some, if_pos (nI_le (by omega) (by omega))]
    rfl
  | succ r ih =>
    intro g l x hl hg
    obtain ⟨g, rfl⟩ : ∃ y, g = y + 1 := ⟨g - 1, by omega⟩
    simp only [F_X6_weigh_50]
    rw [pl_0 hp, Option.bind_some, if_neg (nI_ge (by omega) (by omega)), if_neg (ge_li 8 (by omega) (by decide)), gr_157_0 hs, Option.bind_some, c_con hP hp (S_158 hs) hw hv (by omega), b2_some, nI_1, ih g (l + 1) _ (by omega) (by omega)]
    rfl
theorem c_happy (hs : St S R) (hP : PlOK P) {I : mkI} (hp : CPlan P S R I p) {w : Nat → Int32} (hw : ∀ l, l < 8 → I 158 l = w l) {b : Bool} {a : PA} (hq : CPq b a I) (hQ : QP P a) (x : Int32) : ∃ I', F_X6_weigh_82 (some 157) (some p) x (mk S I L R n) = some (mk S I' L R n) ∧ (∀ l, l < 8 → I' 158 l = w l) ∧ CPq b (a.1, a.2.1, if a.2.2.1 = false ∨ a.2.2.2.1 < x then (true, x, aCutW P w) else a.2.2) I' ∧ kPr I I' := by
  have w2 := hP.2.1
  obtain ⟨q4, q5, q6, q7, q8⟩ := hq
  have key : a.2.2.1 = false ∨ a.2.2.2.1 < x → ∃ I', F_X6_weigh_97 (some 157) (some p) x (mk S I L R n) = some (mk S I' L R n) ∧ (∀ l, l < 8 → I' 158 l = w l) ∧ CPq b (a.1, a.2.1, (true, x, aCutW P w)) I' ∧ kPr I I' := fun _ => by
    obtain ⟨I1, h1⟩ : ∃ I1, I1 = up2 (up2 I 157 6 1) 157 7 x := ⟨_, rfl⟩
    have k1 : ∀ y, y ≠ 157 → I1 y = I y := fun y hy => by rw [h1, up2_ne _ _ _ hy, up2_ne _ _ _ hy]
    have hp1 : CPlan P S R I1 p := hp.pr (fun y a _ _ _ => k1 y a)
    have hcp : cpI (mk S I1 L R n) (some 158) 0 (some 160) 0 (nI (pW P)) = some (mk S (up1 I1 160 (va_cpy (I1 158) (I1 160) 0 0 (pW P))) L R n) := mk_cpI (sp := 0) (dp := 0) (S_158 hs) (S_160 hs) (by omega) (by omega) (by decide) (by decide) (by decide)
    refine ⟨up1 I1 160 (va_cpy (I1 158) (I1 160) 0 0 (pW P)), ?_, fun l hl => ?_, ⟨?_, ?_, ?_, ?_, fun l hl => ⟨?_, ?_⟩⟩, fun y a1 a2 a3 a4 => by rw [up1_ne _ _ a4, k1 y a1]⟩
    · unfold F_X6_weigh_97 F_X6_weigh_124
      rw [pz_157_6 hs (.inr rfl), Option.bind_some, pi_157_7 hs, Option.bind_some, ← h1, gr_157_0 hs, Option.bind_some, gr_157_2 hs, Option.bind_some, pl_0 hp1, Option.bind_some, hcp, Option.bind_some]
    · rw [up1_ne _ _ (by decide), k1 _ (by decide)]; exact hw l hl
    · rw [up1_ne _ _ (by decide), h1, up2_row, up1_ne _ _ (by decide), up2_row, up1_ne _ _ (by decide)]; exact q4
    · rw [up1_ne _ _ (by decide), h1, up2_row, up1_ne _ _ (by decide), up2_row, up1_ne _ _ (by decide)]; exact q5
    · rw [up1_ne _ _ (by decide), h1, up2_row, up1_ne _ _ (by decide), up2_self]; rfl
    · rw [up1_ne _ _ (by decide), h1, up2_self]
    · rw [up1_ne _ _ (by decide), k1 _ (by decide)]; exact (q8 l hl).1
    · rw [up1_self, cpyW, k1 _ (by decide), k1 _ (by decide)]
      show _ = if l < pW P then w l else -1
      by_cases e : l < pW P
      · rw [if_pos e, if_pos e]; exact hw l hl
      · rw [if_neg e, if_neg e, (q8 l hl).2]; exact (hQ.1 l (by omega)).2
  unfold F_X6_weigh_82 F_X6_weigh_124
  rw [gi_157_6 hs, Option.bind_some, q6, gi_157_7 hs, Option.bind_some, q7]
  cases hb : a.2.2.1 with
  | false =>
    rw [if_pos (by rfl), if_pos (.inl rfl)]
    exact key (.inl hb)
  | true =>
    rw [if_neg (by decide)]
    by_cases e : a.2.2.2.1 < x
    · rw [if_neg (Int32.not_le.mpr e), if_pos (.inr e)]
      exact key (.inr e)
    · rw [if_pos (Int32.not_lt.mp e), if_neg (fun q => q.elim (fun z => by cases z) e)]
      exact ⟨I, rfl, hw, ⟨q4, q5, q6, q7, q8⟩, kPr.rf⟩
theorem c_weigh (hs : St S R) (hP : PlOK P) {I : mkI} (hp : CPlan P S R I p) {w : Nat → Int32} (hw : ∀ l, l < 8 → I 158 l = w l) (hv : WV (pW P) w) {b : Bool} {a : PA} (hq : CPq b a I) (hQ : QP P a) (ha : a.1 < 2147483647) : ∃ I', F_X6_weigh (some 157) (some p) (mk S I L R n) = some (mk S I' L R n) ∧ (∀ l, l < 8 → I' 158 l = w l) ∧ CPq b (aWeigh P w a) I' ∧ kPr I I' := by
  have w2 := hP.2.1
  have hpart := c_part (L := L) (n := n) hP hp (S_158 hs) (fun l hl => hw l (by omega)) hv
  have fin : ∀ (I1 : mkI) (a1 : PA), kPr I I1 → (∀ l, l < 8 → I1 158 l = w l) → CPq b a1 I1 → QP P a1 → a1.2.2 = a.2.2 → ∃ I', F_X6_weigh_46 (some 157) (some p) (mk S I1 L R n) = some (mk S I' L R n) ∧ (∀ l, l < 8 → I' 158 l = w l) ∧ CPq b (a1.1, a1.2.1, if a.2.2.1 = false ∨ a.2.2.2.1 < aSumL P w (pW P) 0 0 then (true, aSumL P w (pW P) 0 0, aCutW P w) else a.2.2) I' ∧ kPr I I' := fun I1 a1 k1 hw1 hq1 hQ1 e => by
    have hp1 := hp.pr k1
    obtain ⟨I', z1, z2, z3, z4⟩ := c_happy (L := L) (n := n) hs hP hp1 hw1 hq1 hQ1 (aSumL P w (pW P) 0 0)
    refine ⟨I', ?_, z2, by rw [e] at z3; exact z3, k1.tr z4⟩
    unfold F_X6_weigh_46
    exact (c_sumL (L := L) (n := n) hs hP hp1 (fun l hl => hw1 l (by omega)) hv (pW P) mm_N 0 0 (by omega) (by show pW P < 1000000; omega)).trans z1
  obtain ⟨q4, q5, q6, q7, q8⟩ := id hq
  unfold F_X6_weigh
  rw [gr_157_0 hs, Option.bind_some, hpart, b2_some]
  by_cases e : aPart P w = -1
  · rw [if_pos e, gi_157_5 hs, Option.bind_some, q5]
    by_cases e0 : a.1 = 0
    · obtain ⟨I1, h1⟩ : ∃ I1, I1 = up1 I 159 (va_cpy (I 158) (I 159) 0 0 (pW P)) := ⟨_, rfl⟩
      have hcp : cpI (mk S I L R n) (some 158) 0 (some 159) 0 (nI (pW P)) = some (mk S I1 L R n) := by
        rw [h1]; exact mk_cpI (sp := 0) (dp := 0) (S_158 hs) (S_159 hs) (by omega) (by omega) (by decide) (by decide) (by decide)
      have k1 : ∀ y, y ≠ 159 → I1 y = I y := fun y hy => by rw [h1, up1_ne _ _ hy]
      obtain ⟨I2, h2⟩ : ∃ I2, I2 = up2 I1 157 5 (nI (a.1 + 1)) := ⟨_, rfl⟩
      have hst : ∀ l, l < 8 → I2 159 l = aCutW P w l := fun l hl => by
        rw [h2, up2_ne _ _ _ (by decide), h1, up1_self, cpyW]
        show _ = if l < pW P then w l else -1
        by_cases z : l < pW P
        · rw [if_pos z, if_pos z]; exact hw l hl
        · rw [if_neg z, if_neg z, (q8 l hl).1]; exact (hQ.1 l (by omega)).1
      obtain ⟨I', z1, z2, z3, z4⟩ := fin I2 (a.1 + 1, aCutW P w, a.2.2) (fun y b1 b2 b3 b4 => by rw [h2, up2_ne _ _ _ b1, k1 y b3]) (fun l hl => by rw [h2, up2_ne _ _ _ (by decide), k1 _ (by decide)]; exact hw l hl) ⟨by rw [h2, up2_row, up1_ne _ _ (by decide), k1 _ (by decide)]; exact q4, by rw [h2, up2_self], by rw [h2, up2_row, up1_ne _ _ (by decide), k1 _ (by decide)]; exact q6, by rw [h2, up2_row, up1_ne _ _ (by decide), k1 _ (by decide)]; exact q7, fun l hl => ⟨hst l hl, by rw [h2, up2_ne _ _ _ (by decide), k1 _ (by decide)]; exact (q8 l hl).2⟩⟩ ⟨fun l hl => ⟨if_neg (by omega), (hQ.1 l hl).2⟩, fun z => absurd z (Nat.succ_ne_zero _), hQ.2.2⟩ rfl
      refine ⟨I', ?_, z2, ?_, z4⟩
      · rw [e0, if_pos (show nI 0 = 0 from rfl), gr_157_0 hs, Option.bind_some, gr_157_1 hs, Option.bind_some, pl_0 hp, Option.bind_some, hcp, Option.bind_some]
        unfold F_X6_weigh_36
        rw [gi_157_5 hs, Option.bind_some, k1 _ (by decide), q5, nI_1, pi_157_5 hs, Option.bind_some, ← h2]
        exact z1
      · unfold aWeigh
        rw [if_pos e, if_pos ⟨e, e0⟩]
        exact z3
    · obtain ⟨I2, h2⟩ : ∃ I2, I2 = up2 I 157 5 (nI (a.1 + 1)) := ⟨_, rfl⟩
      obtain ⟨I', z1, z2, z3, z4⟩ := fin I2 (a.1 + 1, a.2.1, a.2.2) (fun y b1 b2 b3 b4 => by rw [h2, up2_ne _ _ _ b1]) (fun l hl => by rw [h2, up2_ne _ _ _ (by decide)]; exact hw l hl) ⟨by rw [h2, up2_row, up1_ne _ _ (by decide)]; exact q4, by rw [h2, up2_self], by rw [h2, up2_row, up1_ne _ _ (by decide)]; exact q6, by rw [h2, up2_row, up1_ne _ _ (by decide)]; exact q7, fun l hl => ⟨by rw [h2, up2_ne _ _ _ (by decide)]; exact (q8 l hl).1, by rw [h2, up2_ne _ _ _ (by decide)]; exact (q8 l hl).2⟩⟩ ⟨hQ.1, fun z => absurd z (Nat.succ_ne_zero _), hQ.2.2⟩ rfl
      refine ⟨I', ?_, z2, ?_, z4⟩
      · rw [if_neg (show ¬ nI a.1 = 0 from fun z => e0 ((nI_eq (b := 0) (by omega) (by omega)).mp z))]
        unfold F_X6_weigh_36
        rw [gi_157_5 hs, Option.bind_some, q5, nI_1, pi_157_5 hs, Option.bind_some, ← h2]
        exact z1
      · unfold aWeigh
        rw [if_pos e, if_neg (fun z => e0 z.2)]
        exact z3
  · rw [if_neg e]
    obtain ⟨I', z1, z2, z3, z4⟩ := fin I a kPr.rf hw hq hQ rfl
    refine ⟨I', z1, z2, ?_, z4⟩
    unfold aWeigh
    rw [if_neg e, if_neg (fun z => e z.1)]
    exact z3
theorem c_pf (hs : St S R) (hP : PlOK P) : ∀ (r F l : Nat) (I : mkI) (w : Nat → Int32) (b : Bool) (a : PA), l + r = pW P → r < F → CPlan P S R I p → (∀ j, j < 8 → I 158 j = w j) → WP (pW P) l w → CPq b a I → QP P a → a.1 + fac r < 2147483647 → ∃ I', G_X6_pairFrom F (some 157) (some p) (nI l) (mk S I L R n) = some (mk S I' L R n) ∧ (∀ j, j < 8 → I' 158 j = w j) ∧ CPq b (aPF P r l w b a) I' ∧ kPr I I' := by
  have w2 := hP.2.1
  intro r
  induction r with
  | zero =>
    intro F l I w b a hl hF hp hw hW hq hQ ha
    obtain ⟨F, rfl⟩ : ∃ y, F = y + 1 := ⟨F - 1, by omega⟩
    have hlW : l = pW P := by omega
    subst hlW
    obtain ⟨I', z1, z2, z3, z4⟩ := c_weigh (L := L) (n := n) hs hP hp hw hW.v hq hQ (by unfold fac at ha; omega)
    refine ⟨I', ?_, z2, z3, z4⟩
    show F_X6_pairFrom (G_X6_pairFrom F) _ _ _ _ = _
    unfold F_X6_pairFrom F_X6_pairFrom_18
    rw [if_neg (nI_pos (by omega)), pl_0 hp, Option.bind_some, if_pos (nI_le (by omega) (by omega)), cv_157 hs, z1, Option.bind_some]
  | succ r ih =>
    intro F l I w b a hl hF hp hw hW hq hQ ha
    obtain ⟨F, rfl⟩ : ∃ y, F = y + 1 := ⟨F - 1, by omega⟩
    have efac : fac (r + 1) = r * fac r + fac r := Nat.succ_mul _ _
    have hf1 : 1 ≤ fac r := by
      have : ∀ r, 1 ≤ fac r := fun r => by
        induction r with
        | zero => exact Nat.le_refl _
        | succ r ih => have : fac (r + 1) = r * fac r + fac r := Nat.succ_mul _ _; omega
      exact this r
    have head : G_X6_pairFrom (F + 1) (some 157) (some p) (nI l) (mk S I L R n) = if w l = -2 then F_X6_pairFrom_48 (G_X6_pairFrom F) mm_N (some 157) (some p) (nI l) (nI (l + 1)) (mk S I L R n) else (G_X6_pairFrom F (some 157) (some p) (nI (l + 1)) (mk S I L R n)).bind fun h => some h := by
      show F_X6_pairFrom (G_X6_pairFrom F) _ _ _ _ = _
      unfold F_X6_pairFrom
      rw [if_neg (nI_pos (by omega)), pl_0 hp, Option.bind_some, if_neg (nI_ge (by omega) (by omega)), if_pos (show nI l < 8 from nI_lt (b := 8) (by omega) (by omega)), gr_157_0 hs, Option.bind_some, ai_158 hs (by omega), Option.bind_some, hw l (by omega), nI_1, cv_157 hs]
    by_cases e : w l = -2
    · -- the loop
      have loop : ∀ (z g m : Nat) (I1 : mkI) (a1 : PA), m + z = pW P → z < g → l < m → kPr I I1 → (∀ j, j < 8 → j ≠ l → I1 158 j = w j) → CPq b a1 I1 → QP P a1 → a1.1 + z * fac r + fac r < 2147483647 → ∃ I2, F_X6_pairFrom_48 (G_X6_pairFrom F) g (some 157) (some p) (nI l) (nI m) (mk S I1 L R n) = F_X6_pairFrom_109 (G_X6_pairFrom F) (some 157) (some p) (nI l) (mk S I2 L R n) ∧ kPr I I2 ∧ (∀ j, j < 8 → j ≠ l → I2 158 j = w j) ∧ CPq b ((List.range' m z).foldl (fun a m => if w m = -2 then aPF P r (l + 1) (up1 (up1 w l (nI m)) m (nI l)) b a else a) a1) I2 ∧ QP P ((List.range' m z).foldl (fun a m => if w m = -2 then aPF P r (l + 1) (up1 (up1 w l (nI m)) m (nI l)) b a else a) a1) ∧ ((List.range' m z).foldl (fun a m => if w m = -2 then aPF P r (l + 1) (up1 (up1 w l (nI m)) m (nI l)) b a else a) a1).1 + fac r < 2147483647 := by
        intro z
        induction z with
        | zero =>
          intro g m I1 a1 hm hg hlm k1 hw1 hq1 hQ1 ha1
          obtain ⟨g, rfl⟩ : ∃ y, g = y + 1 := ⟨g - 1, by omega⟩
          refine ⟨I1, ?_, k1, hw1, hq1, hQ1, by rw [Nat.zero_mul] at ha1; exact ha1⟩
          simp only [F_X6_pairFrom_48]
          rw [pl_0 (hp.pr k1), Option.bind_some, if_pos (nI_le (by omega) (by omega))]
        | succ z ihz =>
          intro g m I1 a1 hm hg hlm k1 hw1 hq1 hQ1 ha1
          obtain ⟨g, rfl⟩ : ∃ y, g = y + 1 := ⟨g - 1, by omega⟩
          have ez : (z + 1) * fac r = z * fac r + fac r := Nat.succ_mul _ _
          rw [List.range'_succ, List.foldl_cons]
          simp only [F_X6_pairFrom_48, F_X6_pairFrom_103]
          rw [pl_0 (hp.pr k1), Option.bind_some, if_neg (nI_ge (by omega) (by omega)), if_neg (ge_li 8 (by omega) (by decide)), gr_157_0 hs, Option.bind_some, ai_158 hs (by omega), Option.bind_some, hw1 m (by omega) (by omega)]
          rw [nI_1, nI_1]
          by_cases em : w m = -2
          · rw [if_pos em, if_pos em]
            obtain ⟨I2, h2⟩ : ∃ I2, I2 = up2 (up2 I1 158 l (nI m)) 158 m (nI l) := ⟨_, rfl⟩
            have k2 : ∀ y, y ≠ 158 → I2 y = I1 y := fun y hy => by rw [h2, up2_ne _ _ _ hy, up2_ne _ _ _ hy]
            have kp2 : kPr I I2 := k1.tr (fun y _ b2 _ _ => k2 y b2)
            have hq2 : CPq b a1 I2 := by
              unfold CPq at *
              rw [k2 _ (by decide), k2 _ (by decide), k2 _ (by decide)]; exact hq1
            obtain ⟨I3, z1, z2, z3, z4⟩ := ih F (l + 1) I2 (up1 (up1 w l (nI m)) m (nI l)) b a1 (by omega) (by omega) (hp.pr kp2) (fun j hj => by
              rw [h2, up2_row]
              by_cases y1 : j = m
              · subst y1; rw [up1_self, up1_self]
              · rw [up1_ne _ _ y1, up1_ne _ _ y1, up2_row]
                by_cases y2 : j = l
                · subst y2; rw [up1_self, up1_self]
                · rw [up1_ne _ _ y2, up1_ne _ _ y2]; exact hw1 j hj y2) (hW.two (by omega) (by omega) w2) hq2 hQ1 (by omega)
            obtain ⟨I4, h4⟩ : ∃ I4, I4 = up2 I3 158 m (-2) := ⟨_, rfl⟩
            have k4 : ∀ y, y ≠ 158 → I4 y = I3 y := fun y hy => by rw [h4, up2_ne _ _ _ hy]
            have hle := aPF_le P r (l + 1) (up1 (up1 w l (nI m)) m (nI l)) b a1
            obtain ⟨I5, y1, y2, y3, y4⟩ := ihz g (m + 1) I4 (aPF P r (l + 1) (up1 (up1 w l (nI m)) m (nI l)) b a1) (by omega) (by omega) (by omega) ((kp2.tr z4).tr (fun y _ b2 _ _ => k4 y b2)) (fun j hj hjl => by
              rw [h4, up2_row]
              by_cases y1 : j = m
              · subst y1; rw [up1_self, em]
              · rw [up1_ne _ _ y1, z2 j hj, up1_ne _ _ y1, up1_ne _ _ hjl]) (by
                unfold CPq at *
                rw [k4 _ (by decide), k4 _ (by decide), k4 _ (by decide)]; exact z3) (aPF_Q _ _ _ _ _ hQ1) (by omega)
            refine ⟨I5, ?_, y2, y3, y4⟩
            rw [Option.bind_some, si_158 hs (by omega), Option.bind_some, gr_157_0 hs, Option.bind_some, si_158 hs (by omega), Option.bind_some, ← h2, cv_157 hs, z1, Option.bind_some, gr_157_0 hs, Option.bind_some, si_158 hs (by omega), Option.bind_some, ← h4]
            exact y1
          · rw [if_neg em, if_neg em]
            exact ihz g (m + 1) I1 a1 (by omega) (by omega) (by omega) k1 hw1 hq1 hQ1 (by omega)
      obtain ⟨I2, y1, y2, y3, y4, y5, y6⟩ := loop r mm_N (l + 1) I a (by omega) (by show r < 1000000; omega) (by omega) kPr.rf (fun j hj _ => hw j hj) hq hQ (by omega)
      obtain ⟨a2, ha2⟩ : ∃ a2, a2 = (List.range' (l + 1) r).foldl (fun a m => if w m = -2 then aPF P r (l + 1) (up1 (up1 w l (nI m)) m (nI l)) b a else a) a := ⟨_, rfl⟩
      rw [← ha2] at y4 y5 y6
      have last : ∀ (I3 : mkI) (a3 : PA), kPr I I3 → (∀ j, j < 8 → j ≠ l → I3 158 j = w j) → CPq b a3 I3 → ∃ I', F_X6_pairFrom_151 (G_X6_pairFrom F) (some 157) (nI l) (mk S I3 L R n) = some (mk S I' L R n) ∧ (∀ j, j < 8 → I' 158 j = w j) ∧ CPq b a3 I' ∧ kPr I I' := fun I3 a3 k3 hw3 hq3 => by
        refine ⟨up2 I3 158 l (-2), ?_, fun j hj => ?_, ?_, k3.tr (kPr.up (.inr (.inl rfl)))⟩
        · unfold F_X6_pairFrom_151
          rw [gr_157_0 hs, Option.bind_some, si_158 hs (by omega), Option.bind_some]
        · rw [up2_row]
          by_cases z : j = l
          · rw [z, up1_self, e]
          · rw [up1_ne _ _ z]; exact hw3 j hj z
        · unfold CPq at *
          rw [up2_ne _ _ _ (by decide), up2_ne _ _ _ (by decide), up2_ne _ _ _ (by decide)]; exact hq3
      rw [head, if_pos e, y1]
      unfold F_X6_pairFrom_109 aPF
      rw [if_pos e, pl_0 (hp.pr y2), Option.bind_some, rem2 (by omega), gi_157_4 hs, Option.bind_some, y4.1, ← ha2]
      by_cases o : pW P % 2 = 1
      · rw [o, if_pos (by decide)]
        cases b with
        | true =>
          rw [if_neg (by decide), if_neg (by simp)]
          exact last I2 a2 y2 y3 y4
        | false =>
          rw [if_pos (by decide), if_pos ⟨rfl, rfl⟩]
          obtain ⟨I3, h3⟩ : ∃ I3, I3 = up2 (up2 I2 157 4 1) 158 l (-1) := ⟨_, rfl⟩
          have k3 : kPr I I3 := y2.tr (fun y b1 b2 _ _ => by rw [h3, up2_ne _ _ _ b2, up2_ne _ _ _ b1])
          obtain ⟨I4, z1, z2, z3, z4⟩ := ih F (l + 1) I3 (up1 w l (-1)) true a2 (by omega) (by omega) (hp.pr k3) (fun j hj => by
            rw [h3, up2_row]
            by_cases z : j = l
            · rw [z, up1_self, up1_self]
            · rw [up1_ne _ _ z, up1_ne _ _ z, up2_ne _ _ _ (by decide)]; exact y3 j hj z) (hW.one (by omega)) (by
              obtain ⟨c4, c5, c6, c7, c8⟩ := y4
              refine ⟨?_, ?_, ?_, ?_, fun j hj => ?_⟩
              · rw [h3, up2_ne _ _ _ (by decide), up2_self]; rfl
              · rw [h3, up2_ne _ _ _ (by decide), up2_row, up1_ne _ _ (by decide)]; exact c5
              · rw [h3, up2_ne _ _ _ (by decide), up2_row, up1_ne _ _ (by decide)]; exact c6
              · rw [h3, up2_ne _ _ _ (by decide), up2_row, up1_ne _ _ (by decide)]; exact c7
              · rw [h3, up2_ne _ _ _ (by decide), up2_ne _ _ _ (by decide), up2_ne _ _ _ (by decide), up2_ne _ _ _ (by decide)]; exact c8 j hj) y5 y6
          obtain ⟨I5, h5⟩ : ∃ I5, I5 = up2 I4 157 4 0 := ⟨_, rfl⟩
          obtain ⟨I', v1, v2, v3, v4⟩ := last I5 (aPF P r (l + 1) (up1 w l (-1)) true a2) ((k3.tr z4).tr (by rw [h5]; exact kPr.up (.inl rfl))) (fun j hj hjl => by rw [h5, up2_ne _ _ _ (by decide), z2 j hj, up1_ne _ _ hjl]) (by
            obtain ⟨c4, c5, c6, c7, c8⟩ := z3
            refine ⟨by rw [h5, up2_self]; rfl, ?_, ?_, ?_, fun j hj => ?_⟩
            · rw [h5, up2_row, up1_ne _ _ (by decide)]; exact c5
            · rw [h5, up2_row, up1_ne _ _ (by decide)]; exact c6
            · rw [h5, up2_row, up1_ne _ _ (by decide)]; exact c7
            · rw [h5, up2_ne _ _ _ (by decide), up2_ne _ _ _ (by decide)]; exact c8 j hj)
          refine ⟨I', ?_, v2, v3, v4⟩
          rw [pz_157_4 hs (.inr rfl), Option.bind_some, gr_157_0 hs, Option.bind_some, si_158 hs (by omega), Option.bind_some, ← h3, nI_1, cv_157 hs, z1, Option.bind_some, pz_157_4 hs (.inl rfl), Option.bind_some, ← h5]
          exact v1
      · rw [if_neg (show ¬ nI (pW P % 2) = 1 from fun q => o ((nI_eq (b := 1) (by omega) (by omega)).mp q)), if_neg (fun q => o q.1)]
        exact last I2 a2 y2 y3 y4
    · obtain ⟨I', z1, z2, z3, z4⟩ := ih F (l + 1) I w b a (by omega) (by omega) hp hw ⟨hW.1, fun j hj => by
        by_cases y : j = l
        · rw [y]; exact e
        · exact hW.2 j (by omega)⟩ hq hQ (by omega)
      refine ⟨I', ?_, z2, ?_, z4⟩
      · rw [head, if_neg e, z1, Option.bind_some]
      · unfold aPF
        rw [if_neg e]; exact z3
end CPF
