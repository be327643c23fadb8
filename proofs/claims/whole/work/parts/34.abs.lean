/-! plans and boards, as both sides have them -/
abbrev PL : Type := Nat × Nat × Nat × (Nat → Int32) × List Nat × List Nat × List Nat
abbrev pT (P : PL) : Nat := P.1
abbrev pW (P : PL) : Nat := P.2.1
abbrev pC (P : PL) : Nat := P.2.2.1
abbrev pRe (P : PL) : Nat → Int32 := P.2.2.2.1
abbrev pS (P : PL) : List Nat := P.2.2.2.2.1
abbrev pL' (P : PL) : List Nat := P.2.2.2.2.2.1
abbrev pM (P : PL) : List Nat := P.2.2.2.2.2.2
def usesV (m : Nat) (ops : List Nat) : Prop := ∀ o ∈ ops, o < 1000 + m ∨ 2000 ≤ o
def lawOK (b : Bool) (m : Nat) (ops : List Nat) : Prop := ops.length ≤ 900 ∧ (ops ≠ [] → tys ops [] = some [b]) ∧ usesV m ops
def PlOK (P : PL) : Prop := 2 ≤ pW P ∧ pW P ≤ 8 ∧ pC P ≤ 3 ∧ lawOK false 4 (pS P) ∧ lawOK false 2 (pL' P) ∧ lawOK true 6 (pM P)
def remI (x w : Int32) : Int32 := x - x / w * w
def vr (a b c d e g : Int32) : Nat → Int32
  | 0 => a
  | 1 => b
  | 2 => c
  | 3 => d
  | 4 => e
  | _ => g
def aComes (P : PL) (fr to mi c : Int32) : Int32 := if pS P = [] then to else
  if remI (to + lawv (vr fr to (remI mi 60) c 0 0) (pS P)) (nI (pW P)) < 0 then remI (to + lawv (vr fr to (remI mi 60) c 0 0) (pS P)) (nI (pW P)) + nI (pW P) else remI (to + lawv (vr fr to (remI mi 60) c 0 0) (pS P)) (nI (pW P))
def aLikes (P : PL) (l m : Int32) : Int32 := if pL' P = [] then 0 else lawv (vr l m 0 0 0 0) (pL' P)
def aWed (P : PL) (fr came mi c : Int32) : Bool := if pM P = [] then false else decide (lawv (vr fr came (remI mi 60) c (aLikes P fr came) (aLikes P came fr)) (pM P) = 1)
theorem ev_congr {m : Nat} {vs vs' : Nat → Int32} (hv : ∀ j, j < m → vs j = vs' j) : ∀ (ops : List Nat) (st : List Int32), usesV m ops → ev vs ops st = ev vs' ops st
  | [], _, _ => rfl
  | o :: ops, st, h => by
    have h1 : stp vs o st = stp vs' o st := by
      unfold stp
      by_cases hA : o < 1000
      · rw [if_pos hA, if_pos hA]
      · rw [if_neg hA, if_neg hA]
        by_cases hB : o < 2000
        · rw [if_pos hB, if_pos hB, hv _ (by rcases h o List.mem_cons_self with q | q <;> omega)]
        · rw [if_neg hB, if_neg hB]
    show ev vs ops (stp vs o st) = ev vs' ops (stp vs' o st)
    rw [h1]
    exact ev_congr hv ops _ (fun o ho => h o (List.mem_cons_of_mem _ ho))
theorem lawv_congr {m : Nat} {vs vs' : Nat → Int32} (hv : ∀ j, j < m → vs j = vs' j) {ops : List Nat} (h : usesV m ops) : lawv vs ops = lawv vs' ops := by unfold lawv; rw [ev_congr hv ops [] h]
/-- the plan as the reference has it -/
def RPlan (P : PL) (K : Nat → Int32) : Prop := K 0 = nI (pT P) ∧ K 1 = nI (pW P) ∧ K 2 = nI (pC P) ∧ (∀ k, k < pC P → K (48 + k) = pRe P k) ∧ (K 3 = nI (pS P).length ∧ ∀ j, j < (pS P).length → K (501 + j) = nI (gam ((pS P).getD j 0))) ∧ (K 4 = nI (pL' P).length ∧ ∀ j, j < (pL' P).length → K (1401 + j) = nI (gam ((pL' P).getD j 0))) ∧ (K 5 = nI (pM P).length ∧ ∀ j, j < (pM P).length → K (2301 + j) = nI (gam ((pM P).getD j 0)))
theorem len0 {l : List Nat} (h : l.length ≤ 900) : (nI l.length = 0) = (l = []) := by
  refine propext ⟨fun q => ?_, fun q => by rw [q]; rfl⟩
  have := (nI_eq (a := l.length) (b := 0) (by omega) (by omega)).mp q
  exact List.length_eq_zero_iff.mp this
/-- only asked and stack differ -/
def keepA (I I' : mkI) : Prop := ∀ a, a ≠ 204 → a ≠ 203 → I' a = I a
theorem keepA.rf {I : mkI} : keepA I I := fun _ _ _ => rfl
theorem keepA.tr {I I' I'' : mkI} (h : keepA I I') (h2 : keepA I' I'') : keepA I I'' := fun a h1 h3 => (h2 a h1 h3).trans (h a h1 h3)
section RC
variable {S : mkS} {L : mkL} {R : mkR} {n : Nat × Nat}
theorem e_asks (hs : St S R) (I : mkI) (x0 x1 x2 x3 : Int32) : F_X12_asks (some 197) x0 x1 x2 x3 (mk S I L R n) = some (mk S (up2 (up2 (up2 (up2 I 204 0 x0) 204 1 x1) 204 2 (remI x2 60)) 204 3 x3) L R n) := by
  unfold F_X12_asks
  rw [gr_197_20 hs, Option.bind_some, show (0 : Int32) = nI 0 from rfl, si_204 hs (by decide), Option.bind_some, gr_197_20 hs, Option.bind_some, show (1 : Int32) = nI 1 from rfl, si_204 hs (by decide), Option.bind_some, gr_197_20 hs, Option.bind_some, show (2 : Int32) = nI 2 from rfl, si_204 hs (by decide), Option.bind_some, gr_197_20 hs, Option.bind_some, show (3 : Int32) = nI 3 from rfl, si_204 hs (by decide), Option.bind_some]
  rfl
theorem e_likesHow (hs : St S R) {P : PL} (hP : PlOK P) (I : mkI) (hK : RPlan P (I 198)) (l m : Int32) : ∃ I', keepA I I' ∧ F_X12_likesHow (some 197) l m (mk S I L R n) = some (aLikes P l m, mk S I' L R n) := by
  obtain ⟨-, -, -, -, h5, -⟩ := hP
  obtain ⟨-, -, -, -, -, ⟨k1, k2⟩, -⟩ := hK
  unfold F_X12_likesHow aLikes
  simp only [gr_197_0 hs, Option.bind_some, ail_198 hs (show 4 < 3205 by decide), k1, len0 h5.1]
  by_cases h : pL' P = []
  · rw [if_pos h, if_pos h]; exact ⟨I, keepA.rf, rfl⟩
  · rw [if_neg h, if_neg h]
    obtain ⟨g, hg⟩ := e_lawOf (n := n) (L := L) hs (many := 4) (at_ := 1401) (by decide) (by decide) (pL' P) false (up2 (up2 I 204 0 l) 204 1 m) h5.1 (by rw [up2_ne _ _ _ (by decide), up2_ne _ _ _ (by decide)]; exact k1) (fun j hj => by rw [up2_ne _ _ _ (by decide), up2_ne _ _ _ (by decide)]; exact k2 j hj) (h5.2.1 h)
    refine ⟨up1 (up2 (up2 I 204 0 l) 204 1 m) 203 g, fun a h1 h2 => by rw [up1_ne _ _ h2, up2_ne _ _ _ h1, up2_ne _ _ _ h1], ?_⟩
    rw [gr_197_20 hs, Option.bind_some, show (0 : Int32) = nI 0 from rfl, si_204 hs (by decide), Option.bind_some, gr_197_20 hs, Option.bind_some, show (1 : Int32) = nI 1 from rfl, si_204 hs (by decide), Option.bind_some, cv_197 hs, show (4 : Int32) = nI 4 from rfl, show (1401 : Int32) = nI 1401 from rfl, hg, b2_some, lawv_congr (vs' := vr l m 0 0 0 0) (m := 2) ?_ h5.2.2]
    · rfl
    · intro j hj
      rcases (show j = 0 ∨ j = 1 by omega) with rfl | rfl
      · simp [up2, vr]
      · simp [up2, vr]
theorem e_comesBy (hs : St S R) {P : PL} (hP : PlOK P) (I : mkI) (hK : RPlan P (I 198)) {c : Nat} (hc : c < 10) (mi : Int32) : ∃ I', keepA I I' ∧ F_X12_comesBy (some 197) (nI c) mi (mk S I L R n) = some (aComes P (I 198 (51 + c)) (I 198 (61 + c)) mi (nI c), mk S I' L R n) := by
  obtain ⟨w1, w2, -, h5, -⟩ := hP
  obtain ⟨-, hw, -, -, ⟨k1, k2⟩, -⟩ := hK
  unfold F_X12_comesBy aComes
  simp only [gr_197_0 hs, Option.bind_some, ail_198 hs (show 3 < 3205 by decide), k1, len0 h5.1, li_add 51, li_add 61, ai_198 hs (show 51 + c < 3205 by omega), ai_198 hs (show 61 + c < 3205 by omega)]
  by_cases h : pS P = []
  · rw [if_pos h, if_pos h]; exact ⟨I, keepA.rf, rfl⟩
  · rw [if_neg h, if_neg h]
    have hne : ¬ nI (pW P) = 0 := nI_ne0 (by omega) (by omega)
    obtain ⟨I1, hI1⟩ : ∃ I1, I1 = up2 (up2 (up2 (up2 I 204 0 (I 198 (51 + c))) 204 1 (I 198 (61 + c))) 204 2 (remI mi 60)) 204 3 (nI c) := ⟨_, rfl⟩
    have hI2 : ∀ a, a ≠ 204 → I1 a = I a := fun a h1 => by rw [hI1, up2_ne _ _ _ h1, up2_ne _ _ _ h1, up2_ne _ _ _ h1, up2_ne _ _ _ h1]
    obtain ⟨g, hg⟩ := e_lawOf (n := n) (L := L) hs (many := 3) (at_ := 501) (by decide) (by decide) (pS P) false I1 h5.1 (by rw [hI2 _ (by decide)]; exact k1) (fun j hj => by rw [hI2 _ (by decide)]; exact k2 j hj) (h5.2.1 h)
    have hv : lawv (I1 204) (pS P) = lawv (vr (I 198 (51 + c)) (I 198 (61 + c)) (remI mi 60) (nI c) 0 0) (pS P) := by
      refine lawv_congr (m := 4) ?_ h5.2.2
      intro j hj
      rw [hI1]
      rcases (show j = 0 ∨ j = 1 ∨ j = 2 ∨ j = 3 by omega) with rfl | rfl | rfl | rfl <;> simp [up2, vr]
    refine ⟨up1 I1 203 g, fun a h1 h2 => by rw [up1_ne _ _ h2, hI2 a h1], ?_⟩
    rw [cv_197 hs, e_asks hs, Option.bind_some, ← hI1]
    simp only [gr_197_0 hs, Option.bind_some, ai_198 hs (show 61 + c < 3205 by omega), cv_197 hs]
    rw [show (3 : Int32) = nI 3 from rfl, show (501 : Int32) = nI 501 from rfl, hg, b2_some, hv]
    have u1 : up1 I1 203 g 198 = I 198 := by rw [up1_ne _ _ (by decide), hI2 _ (by decide)]
    simp only [gr_197_0 hs, Option.bind_some, ail_198 hs (show 1 < 3205 by decide), u1, hw, hne, if_false, F_X12_comesBy_85, hI2 198 (by decide)]
    show (if 0 ≤ remI (I 198 (61 + c) + lawv (vr (I 198 (51 + c)) (I 198 (61 + c)) (remI mi 60) (nI c) 0 0) (pS P)) (nI (pW P)) then some (remI (I 198 (61 + c) + lawv (vr (I 198 (51 + c)) (I 198 (61 + c)) (remI mi 60) (nI c) 0 0) (pS P)) (nI (pW P)), mk S (up1 I1 203 g) L R n) else some (remI (I 198 (61 + c) + lawv (vr (I 198 (51 + c)) (I 198 (61 + c)) (remI mi 60) (nI c) 0 0) (pS P)) (nI (pW P)) + nI (pW P), mk S (up1 I1 203 g) L R n)) = _
    generalize remI (I 198 (61 + c) + lawv (vr (I 198 (51 + c)) (I 198 (61 + c)) (remI mi 60) (nI c) 0 0) (pS P)) (nI (pW P)) = t
    by_cases q : 0 ≤ t
    · have q2 : ¬ t < 0 := by rw [Int32.le_iff_toInt_le] at q; rw [Int32.lt_iff_toInt_lt]; omega
      rw [if_pos q, if_neg q2]
    · have q2 : t < 0 := by rw [Int32.le_iff_toInt_le] at q; rw [Int32.lt_iff_toInt_lt]; omega
      rw [if_neg q, if_pos q2]
theorem e_marriesBy (hs : St S R) {P : PL} (hP : PlOK P) (I : mkI) (hK : RPlan P (I 198)) {c : Nat} (hc : c < 10) (came : Int32) : ∃ I', keepA I I' ∧ F_X12_marriesBy (some 197) (nI c) came (mk S I L R n) = some (b2i (aWed P (I 198 (51 + c)) came (I 198 47) (nI c)), mk S I' L R n) := by
  have hP0 := hP
  have hK0 := hK
  obtain ⟨-, -, -, -, -, h5⟩ := hP
  obtain ⟨-, -, -, -, -, -, k1, k2⟩ := hK
  unfold F_X12_marriesBy aWed
  simp only [gr_197_0 hs, Option.bind_some, ail_198 hs (show 5 < 3205 by decide), k1, len0 h5.1, li_add 51, ai_198 hs (show 51 + c < 3205 by omega)]
  by_cases h : pM P = []
  · rw [if_pos h, if_pos h]; exact ⟨I, keepA.rf, rfl⟩
  · rw [if_neg h, if_neg h]
    obtain ⟨I1, a1, b1⟩ := e_likesHow (n := n) (L := L) hs hP0 I hK0 (I 198 (51 + c)) came
    have u1 : I1 198 = I 198 := a1 _ (by decide) (by decide)
    obtain ⟨I2, a2, b2⟩ := e_likesHow (n := n) (L := L) hs hP0 I1 (by rw [u1]; exact hK0) came (I 198 (51 + c))
    have u2 : I2 198 = I 198 := (a2 _ (by decide) (by decide)).trans u1
    simp only [cv_197 hs, b1, b2_some, gr_197_0 hs, Option.bind_some, ai_198 hs (show 51 + c < 3205 by omega), u1, b2, u2, ail_198 hs (show 47 < 3205 by decide), e_asks hs, gr_197_20 hs]
    obtain ⟨I3, hI3⟩ : ∃ I3, I3 = up2 (up2 (up2 (up2 (up2 (up2 I2 204 0 (I 198 (51 + c))) 204 1 came) 204 2 (remI (I 198 47) 60)) 204 3 (nI c)) 204 4 (aLikes P (I 198 (51 + c)) came)) 204 5 (aLikes P came (I 198 (51 + c))) := ⟨_, rfl⟩
    have hI4 : ∀ a, a ≠ 204 → I3 a = I2 a := fun a h1 => by rw [hI3, up2_ne _ _ _ h1, up2_ne _ _ _ h1, up2_ne _ _ _ h1, up2_ne _ _ _ h1, up2_ne _ _ _ h1, up2_ne _ _ _ h1]
    obtain ⟨g, hg⟩ := e_lawOf (n := n) (L := L) hs (many := 5) (at_ := 2301) (by decide) (by decide) (pM P) true I3 h5.1 (by rw [hI4 _ (by decide), u2]; exact k1) (fun j hj => by rw [hI4 _ (by decide), u2]; exact k2 j hj) (h5.2.1 h)
    have hv : lawv (I3 204) (pM P) = lawv (vr (I 198 (51 + c)) came (remI (I 198 47) 60) (nI c) (aLikes P (I 198 (51 + c)) came) (aLikes P came (I 198 (51 + c)))) (pM P) := by
      refine lawv_congr (m := 6) ?_ h5.2.2
      intro j hj
      rw [hI3]
      rcases (show j = 0 ∨ j = 1 ∨ j = 2 ∨ j = 3 ∨ j = 4 ∨ j = 5 by omega) with rfl | rfl | rfl | rfl | rfl | rfl <;> simp [up2, vr]
    refine ⟨up1 I3 203 g, fun a h1 h2 => by rw [up1_ne _ _ h2, hI4 a h1]; exact (a1.tr a2) a h1 h2, ?_⟩
    have e4 : ∀ (I : mkI) (x : Int32), sI (mk S I L R n) (some 204) 0 (4 : Int32) x = some (mk S (up2 I 204 4 x) L R n) := fun I x => si_204 (k := 4) hs (by decide)
    have e5 : ∀ (I : mkI) (x : Int32), sI (mk S I L R n) (some 204) 0 (5 : Int32) x = some (mk S (up2 I 204 5 x) L R n) := fun I x => si_204 (k := 5) hs (by decide)
    simp only [e4, e5, gr_197_20 hs, cv_197 hs, Option.bind_some, ← hI3]
    have hg' : F_X12_lawOf (some 197) (5 : Int32) (2301 : Int32) (mk S I3 L R n) = _ := hg
    rw [hg', b2_some, hv]
    unfold F_X12_marriesBy_96
    generalize lawv (vr (I 198 (51 + c)) came (remI (I 198 47) 60) (nI c) (aLikes P (I 198 (51 + c)) came) (aLikes P came (I 198 (51 + c)))) (pM P) = t
    by_cases q : t = 1
    · simp [q, rZ, b2i]
    · simp [q, rZ, b2i]
end RC
