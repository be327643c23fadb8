/-! minutes: calls over are set so late -/
def aPutT (P : PL) (f : Nat → Int32) (c : Nat) (fr came cord mi : Int32) : Nat → Int32 :=
  if cord = -1 then up1 f (15 + 7 * c) 3
  else if came ≠ f (12 + 7 * c) ∧ f (3 + fr.toNatClampNeg) = -1 ∧ f (3 + came.toNatClampNeg) = -1 ∧ aWed P fr came mi (nI c) = true then up1 (up1 (up1 (up1 (up1 f (15 + 7 * c) 1) (16 + 7 * c) came) (17 + 7 * c) cord) (3 + fr.toNatClampNeg) came) (3 + came.toNatClampNeg) fr
  else up1 (up1 (up1 f (15 + 7 * c) 1) (16 + 7 * c) came) (17 + 7 * c) cord
theorem aPut_T (P : PL) (f : Nat → Int32) (c : Nat) (fr came cord : Int32) : aPut P f c fr came cord = aPutT P f c fr came cord (f 0) := rfl
def ovr (C : Nat) (e : Int32) (g : Nat → Int32) : Nat → Int32 := fun j => if 15 ≤ j ∧ (j - 15) % 7 = 0 ∧ (j - 15) / 7 < C ∧ g j = 1 ∧ ¬ e ≤ g (j - 2) + g (j - 1) then 2 else g j
def busyT (C : Nat) (g : Nat → Int32) (t l : Int32) : Int32 := fnd (fun d => decide (g (15 + 7 * d) = 1) && decide (t < g (13 + 7 * d) + g (14 + 7 * d)) && (decide (g (11 + 7 * d) = l) || decide (g (16 + 7 * d) = l))) C 0
def onT (C : Nat) (g : Nat → Int32) (t k : Int32) : Int32 := fnd (fun d => decide (g (15 + 7 * d) = 1) && decide (t < g (13 + 7 * d) + g (14 + 7 * d)) && decide (g (17 + 7 * d) = k)) C 0
def freeT (P : PL) (C : Nat) (g : Nat → Int32) (t l m : Int32) : Int32 := fnd (fun k => hasB (pRe P k) l && hasB (pRe P k) m && decide (onT C g t (nI k) = -1)) (pC P) 0
def cordT (P : PL) (C : Nat) (g : Nat → Int32) (t fr came : Int32) : Int32 := if came = fr then -1 else if hasB (g 2) fr = true then -1 else if hasB (g 2) came = true then -1 else if busyT C g t fr = -1 then (if busyT C g t came = -1 then freeT P C g t fr came else -1) else -1
def cameT (P : PL) (frc : Nat → Int32) (g : Nat → Int32) (c : Nat) : Int32 := if frc c = -1 then aComes P (g (11 + 7 * c)) (g (12 + 7 * c)) (g (13 + 7 * c)) (nI c) else frc c
def gCord (P : PL) (frc : Nat → Int32) (C : Nat) (g : Nat → Int32) (c : Nat) : Int32 := cordT P C g (g (13 + 7 * c)) (g (11 + 7 * c)) (cameT P frc g c)
def gStep (P : PL) (frc : Nat → Int32) (C : Nat) (g : Nat → Int32) (c : Nat) : Nat → Int32 := aPutT P g c (g (11 + 7 * c)) (cameT P frc g c) (gCord P frc C g c) (g (13 + 7 * c))
theorem ovr_st {C d : Nat} {e : Int32} {g : Nat → Int32} (hd : d < C) : ovr C e g (15 + 7 * d) = if g (15 + 7 * d) = 1 ∧ ¬ e ≤ g (13 + 7 * d) + g (14 + 7 * d) then 2 else g (15 + 7 * d) := by
  unfold ovr
  rw [show 15 + 7 * d - 2 = 13 + 7 * d by omega, show 15 + 7 * d - 1 = 14 + 7 * d by omega]
  by_cases h : g (15 + 7 * d) = 1 ∧ ¬ e ≤ g (13 + 7 * d) + g (14 + 7 * d)
  · rw [if_pos h, if_pos ⟨by omega, by omega, by omega, h⟩]
  · rw [if_neg h, if_neg (fun q => h q.2.2.2)]
theorem ovr_ne {C j : Nat} {e : Int32} {g : Nat → Int32} (h : ∀ d, d < C → j ≠ 15 + 7 * d) : ovr C e g j = g j := by
  unfold ovr
  refine if_neg (fun q => h ((j - 15) / 7) q.2.2.1 ?_)
  have := q.2.1
  have := q.1
  omega
theorem st_or (C j : Nat) : (∃ d, d < C ∧ j = 15 + 7 * d) ∨ ∀ d, d < C → j ≠ 15 + 7 * d := by
  by_cases h : ∃ d, d < C ∧ j = 15 + 7 * d
  · exact .inl h
  · exact .inr (fun d hd q => h ⟨d, hd, q⟩)
theorem ovr_up {C k : Nat} {e v : Int32} {g : Nat → Int32} (hk : ∀ d, k ≠ 13 + 7 * d ∧ k ≠ 14 + 7 * d ∧ k ≠ 15 + 7 * d) : ovr C e (up1 g k v) = up1 (ovr C e g) k v := by
  funext j
  by_cases hj : j = k
  · subst hj; rw [ovr_ne (fun d _ => (hk d).2.2), up1_self, up1_self]
  · rw [up1_ne _ _ hj]
    rcases st_or C j with ⟨d, hd, rfl⟩ | h
    · rw [ovr_st hd, ovr_st hd, up1_ne _ _ hj, up1_ne _ _ (fun q => (hk d).1 q.symm), up1_ne _ _ (fun q => (hk d).2.1 q.symm)]
    · rw [ovr_ne h, ovr_ne h, up1_ne _ _ hj]
theorem ovr_upst {C c : Nat} {e v : Int32} {g : Nat → Int32} (hv : v = 1 → e ≤ g (13 + 7 * c) + g (14 + 7 * c)) : ovr C e (up1 g (15 + 7 * c) v) = up1 (ovr C e g) (15 + 7 * c) v := by
  funext j
  by_cases hj : j = 15 + 7 * c
  · subst hj
    rw [up1_self]
    rcases st_or C (15 + 7 * c) with ⟨d, hd, q⟩ | h
    · have : c = d := by omega
      subst this
      rw [ovr_st hd, up1_self, up1_ne _ _ (by omega), up1_ne _ _ (by omega), if_neg (fun q => q.2 (hv q.1))]
    · rw [ovr_ne h, up1_self]
  · rw [up1_ne _ _ hj]
    rcases st_or C j with ⟨d, hd, rfl⟩ | h
    · rw [ovr_st hd, ovr_st hd, up1_ne _ _ hj, up1_ne _ _ (by omega), up1_ne _ _ (by omega)]
    · rw [ovr_ne h, ovr_ne h, up1_ne _ _ hj]
theorem ovr_putT {P : PL} {C c a b : Nat} {e cord mi : Int32} {g : Nat → Int32} (ha : a < 8) (hb : b < 8) (he : e ≤ g (13 + 7 * c) + g (14 + 7 * c)) : ovr C e (aPutT P g c (nI a) (nI b) cord mi) = aPutT P (ovr C e g) c (nI a) (nI b) cord mi := by
  unfold aPutT
  rw [nI_clamp (by omega), nI_clamp (by omega), ovr_ne (j := 12 + 7 * c) (fun d _ => by omega), ovr_ne (j := 3 + a) (fun d _ => by omega), ovr_ne (j := 3 + b) (fun d _ => by omega)]
  have k16 : ∀ d, 16 + 7 * c ≠ 13 + 7 * d ∧ 16 + 7 * c ≠ 14 + 7 * d ∧ 16 + 7 * c ≠ 15 + 7 * d := fun d => by omega
  have k17 : ∀ d, 17 + 7 * c ≠ 13 + 7 * d ∧ 17 + 7 * c ≠ 14 + 7 * d ∧ 17 + 7 * c ≠ 15 + 7 * d := fun d => by omega
  have ka : ∀ d, 3 + a ≠ 13 + 7 * d ∧ 3 + a ≠ 14 + 7 * d ∧ 3 + a ≠ 15 + 7 * d := fun d => by omega
  have kb : ∀ d, 3 + b ≠ 13 + 7 * d ∧ 3 + b ≠ 14 + 7 * d ∧ 3 + b ≠ 15 + 7 * d := fun d => by omega
  split
  · exact ovr_upst (fun h => absurd h (by decide))
  · split
    · rw [ovr_up kb, ovr_up ka, ovr_up k17, ovr_up k16, ovr_upst (fun _ => he)]
    · rw [ovr_up k17, ovr_up k16, ovr_upst (fun _ => he)]
theorem up1_comm {α : Type} (f : Nat → α) {a b : Nat} (x y : α) (h : a ≠ b) : up1 (up1 f a x) b y = up1 (up1 f b y) a x := by
  funext j; simp only [up1]
  by_cases h1 : j = a <;> by_cases h2 : j = b <;> simp [h1, h2]
  · omega
  · intro q; omega
  · intro q; omega
theorem putT_0 {P : PL} {c a b : Nat} {cord mi x : Int32} {g : Nat → Int32} (ha : a < 8) (hb : b < 8) : aPutT P (up1 g 0 x) c (nI a) (nI b) cord mi = up1 (aPutT P g c (nI a) (nI b) cord mi) 0 x := by
  unfold aPutT
  rw [nI_clamp (by omega), nI_clamp (by omega), up1_ne _ _ (by omega), up1_ne _ _ (by omega), up1_ne _ _ (by omega)]
  split
  · rw [up1_comm _ _ _ (by omega)]
  · split
    · rw [up1_comm g (a := 0) _ _ (by omega), up1_comm _ (a := 0) (b := 16 + 7 * c) _ _ (by omega), up1_comm _ (a := 0) (b := 17 + 7 * c) _ _ (by omega), up1_comm _ (a := 0) (b := 3 + a) _ _ (by omega), up1_comm _ (a := 0) (b := 3 + b) _ _ (by omega)]
    · rw [up1_comm g (a := 0) _ _ (by omega), up1_comm _ (a := 0) (b := 16 + 7 * c) _ _ (by omega), up1_comm _ (a := 0) (b := 17 + 7 * c) _ _ (by omega)]
theorem lt_le1 {m : Nat} (hm : m < 2147483646) (x : Int32) : (nI m < x) = (nI (m + 1) ≤ x) := by
  refine propext ?_
  rw [Int32.lt_iff_toInt_lt, Int32.le_iff_toInt_le, nI_toInt (by omega), nI_toInt (by omega)]
  omega
theorem busy_ovr {C m : Nat} {g : Nat → Int32} {x l : Int32} (hm : m < 2147483646) : aBusy C (up1 (ovr C (nI (m + 1)) g) 0 x) l = busyT C g (nI m) l := by
  unfold aBusy busyT
  refine fnd_congr _ _ (fun d _ hd => ?_)
  unfold aBusyP
  rw [up1_ne _ _ (by omega), up1_ne _ _ (by omega), up1_ne _ _ (by omega), ovr_st (by omega), ovr_ne (j := 11 + 7 * d) (fun d _ => by omega), ovr_ne (j := 16 + 7 * d) (fun d _ => by omega)]
  simp only [lt_le1 hm]
  by_cases h1 : g (15 + 7 * d) = 1 <;> by_cases h2 : nI (m + 1) ≤ g (13 + 7 * d) + g (14 + 7 * d) <;> simp [h1, h2]
theorem on_ovr {C m : Nat} {g : Nat → Int32} {x l : Int32} (hm : m < 2147483646) : aOn C (up1 (ovr C (nI (m + 1)) g) 0 x) l = onT C g (nI m) l := by
  unfold aOn onT
  refine fnd_congr _ _ (fun d _ hd => ?_)
  unfold aOnP
  rw [up1_ne _ _ (by omega), up1_ne _ _ (by omega), ovr_st (by omega), ovr_ne (j := 17 + 7 * d) (fun d _ => by omega)]
  simp only [lt_le1 hm]
  by_cases h1 : g (15 + 7 * d) = 1 <;> by_cases h2 : nI (m + 1) ≤ g (13 + 7 * d) + g (14 + 7 * d) <;> simp [h1, h2]
theorem cord_ovr {P : PL} {C m : Nat} {g : Nat → Int32} {x fr came : Int32} (hm : m < 2147483646) : aCordOf P C (up1 (ovr C (nI (m + 1)) g) 0 x) fr came = cordT P C g (nI m) fr came := by
  unfold aCordOf cordT aFree freeT
  rw [busy_ovr hm, busy_ovr hm, up1_ne _ _ (by omega), ovr_ne (j := 2) (fun d _ => by omega)]
  have : ∀ l m', fnd (aFreeP P C (up1 (ovr C (nI (m + 1)) g) 0 x) l m') (pC P) 0 = fnd (fun k => hasB (pRe P k) l && hasB (pRe P k) m' && decide (onT C g (nI m) (nI k) = -1)) (pC P) 0 := fun l m' => fnd_congr _ _ (fun k _ _ => by unfold aFreeP; rw [on_ovr hm])
  rw [this]
/-- a call of this minute begins, on the reference's board -/
theorem beg_ovr {P : PL} {frc : Nat → Int32} {C m c a b : Nat} {g : Nat → Int32} (hm : m < 2147483646) (hA : g (13 + 7 * c) = nI m) (hE : nI (m + 1) ≤ g (13 + 7 * c) + g (14 + 7 * c)) (ha : a < 8) (hb : b < 8) (ea : g (11 + 7 * c) = nI a) (eb : cameT P frc g c = nI b) : aBegin P frc C (up1 (ovr C (nI (m + 1)) g) 0 (nI m)) c = up1 (ovr C (nI (m + 1)) (gStep P frc C g c)) 0 (nI m) := by
  have e1 : aCame P frc (up1 (ovr C (nI (m + 1)) g) 0 (nI m)) c = cameT P frc g c := by
    unfold aCame cameT
    rw [up1_ne _ _ (by omega), up1_ne _ _ (by omega), up1_self, ovr_ne (j := 11 + 7 * c) (fun d _ => by omega), ovr_ne (j := 12 + 7 * c) (fun d _ => by omega), hA]
  unfold aBegin gStep gCord
  rw [aPut_T, e1, cord_ovr hm, up1_self, up1_ne _ _ (by omega), ovr_ne (j := 11 + 7 * c) (fun d _ => by omega), ea, eb, hA, putT_0 ha hb, ovr_putT ha hb (by rw [hA] at hE; rw [hA]; exact hE)]
