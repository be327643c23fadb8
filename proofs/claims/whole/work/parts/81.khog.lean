/-! rows that are the same up to 81 run the same -/
theorem up1_ag {g g' : Nat → Int32} (h : ∀ j, j < 81 → g' j = g j) (k : Nat) (x : Int32) : ∀ j, j < 81 → up1 g' k x j = up1 g k x j := fun j hj => by
  simp only [up1]; split
  · rfl
  · exact h j hj
theorem ag_step {P : PL} (hP : PlOK P) {C : Nat} {g g' : Nat → Int32} {F T A D : Nat → Nat} (hV : BV P C g F T A D) {frc : Nat → Int32} (hf : frcOK P frc) {c : Nat} (hc : c < C) (h : ∀ j, j < 81 → g' j = g j) : gCord P frc C g' c = gCord P frc C g c ∧ ∀ j, j < 81 → gStep P frc C g' c j = gStep P frc C g c j := by
  have hC := hV.1
  have w2 := hP.2.1
  obtain ⟨b, hb, eb⟩ := cameT_lt hP hV hf hc
  obtain ⟨⟨e1, ha⟩, -⟩ := hV.2.2 c hc
  have ec : cameT P frc g' c = cameT P frc g c := by unfold cameT; rw [h _ (by omega), h _ (by omega), h _ (by omega)]
  have eb2 : ∀ t l, busyT C g' t l = busyT C g t l := fun t l => by
    unfold busyT
    refine fnd_congr _ _ (fun d _ hd => ?_)
    rw [h (15 + 7 * d) (by omega), h (13 + 7 * d) (by omega), h (14 + 7 * d) (by omega), h (11 + 7 * d) (by omega), h (16 + 7 * d) (by omega)]
  have eo : ∀ t l, onT C g' t l = onT C g t l := fun t l => by
    unfold onT
    refine fnd_congr _ _ (fun d _ hd => ?_)
    rw [h (15 + 7 * d) (by omega), h (13 + 7 * d) (by omega), h (14 + 7 * d) (by omega), h (17 + 7 * d) (by omega)]
  have eC : gCord P frc C g' c = gCord P frc C g c := by
    unfold gCord cordT freeT
    simp only [ec, eb2, eo, h (13 + 7 * c) (by omega), h (11 + 7 * c) (by omega), h 2 (by omega)]
  refine ⟨eC, fun j hj => ?_⟩
  unfold gStep
  rw [eC, ec, h (11 + 7 * c) (by omega), h (13 + 7 * c) (by omega), e1, eb]
  unfold aPutT
  rw [nI_clamp (by omega), nI_clamp (by omega), h (12 + 7 * c) (by omega), h (3 + F c) (by omega), h (3 + b) (by omega)]
  split
  · exact up1_ag h _ _ j hj
  · split
    · exact up1_ag (up1_ag (up1_ag (up1_ag (up1_ag h _ _) _ _) _ _) _ _) _ _ j hj
    · exact up1_ag (up1_ag (up1_ag h _ _) _ _) _ _ j hj
theorem ag_lost {P : PL} (hP : PlOK P) {C : Nat} {F T A D : Nat → Nat} {frc : Nat → Int32} (hf : frcOK P frc) : ∀ (l : List Nat) (g g' : Nat → Int32), BV P C g F T A D → (∀ c ∈ l, c < C) → (∀ j, j < 81 → g' j = g j) → gLost P frc C l g' = gLost P frc C l g
  | [], _, _, _, _, _ => rfl
  | c :: l, g, g', hV, hl, h => by
    have hc := hl c List.mem_cons_self
    obtain ⟨h1, h2⟩ := ag_step hP hV hf hc h
    have ih := ag_lost hP hf l _ _ (hV.step hP hf hc) (fun d hd => hl d (List.mem_cons_of_mem _ hd)) h2
    simp only [gLost]
    rw [h1, ih]
theorem ag_evU {f g : Nat → Int32} {A : Nat → Nat} {C : Nat} (hC : C ≤ 10) (h : ∀ j, j < 81 → g j = f j) : ∀ (n m : Nat), evU g A C m n = evU f A C m n
  | 0, _ => rfl
  | n + 1, m => by
    show evM g A C m ++ evU g A C (m + 1) n = evM f A C m ++ evU f A C (m + 1) n
    rw [ag_evU hC h n (m + 1)]
    congr 1
    refine evL_congr C 0 (fun d _ hd => ?_)
    unfold qq
    rw [h _ (by omega)]
/-! hog -/
def aHogL (tc : Nat → Bool) (wo wi : Nat → Nat) : Nat → Nat → Int32 → Nat → Int32
  | 0, _, v, _ => v
  | r + 1, c, v, few => if tc c = true ∧ wo c < wi c ∧ (v = -1 ∨ wo c < few) then aHogL tc wo wi r (c + 1) (nI c) (wo c) else aHogL tc wo wi r (c + 1) v few
theorem bit_at : ∀ v < 1024, ∀ c < 10, (nI v >>> (nI c &&& 31)) &&& 1 = nI (if v.testBit c = true then 1 else 0) := by decide +kernel
theorem bit_off : ∀ v < 1024, ∀ c < 10, ∃ u < 1024, nI v &&& (((1 : Int32) <<< (nI c &&& 31)) ^^^ (-1)) = nI u ∧ pcn u + (if v.testBit c = true then 1 else 0) = pcn v := fun v hv c hc => by
  have key : ∀ v < 1024, ∀ c < 10, nI v &&& (((1 : Int32) <<< (nI c &&& 31)) ^^^ (-1)) = nI (v &&& (1023 - 2 ^ c)) ∧ v &&& (1023 - 2 ^ c) < 1024 ∧ pcn (v &&& (1023 - 2 ^ c)) + (if v.testBit c = true then 1 else 0) = pcn v := by decide +kernel
  obtain ⟨k1, k2, k3⟩ := key v hv c hc
  exact ⟨_, k2, k1, k3⟩
/-- how many are lost when a call never begins -/
def hogW (P : PL) (C : Nat) (f : Nat → Int32) (A : Nat → Nat) (M N c : Nat) : Nat := (gLost P frc0 C (evU (up1 f (15 + 7 * c) 2) A C M N) (up1 f (15 + 7 * c) 2)).length
def hogI (P : PL) (C : Nat) (f : Nat → Int32) (A : Nat → Nat) (M N c : Nat) : Nat := (gLost P frc0 C (evU f A C M N) f).length - (if c ∈ gLost P frc0 C (evU f A C M N) f then 1 else 0)
theorem len10 {l : List Nat} {C : Nat} (h : ∀ c ∈ l, c < C) (hn : l.Nodup) (hC : C ≤ 10) : l.length ≤ 10 := by
  obtain ⟨q1, q2⟩ := bitsN_len (fun c hc => by have := h c hc; omega) hn
  rw [← q2]; exact pcn_10 _ q1
section HG
variable {tb : Nat → Nat} {tn : Nat} {fk fp : Int32} {w : WD} {tr : TR} {im : IM} {k : Nat} {S : mkS} {L : mkL} {n : Nat × Nat}
theorem c_hogL (hP : PlOK w.1) {f : Nat → Int32} {F T A D : Nat → Nat} {M N : Nat} (hB : BI w.1 w.2.1.1 f F T A D M) (hN : M + N ≤ 300000) {lb : Nat} (hlb : lb < 1024) (hbit : ∀ c, c < w.2.1.1 → f (15 + 7 * c) = 0 → lb.testBit c = decide (c ∈ gLost w.1 frc0 w.2.1.1 (evU f A w.2.1.1 M N) f)) : ∀ (r g c few : Nat) (v : Int32) (I : mkI) (R : mkR), c + r = w.2.1.1 → r < g → few ≤ 10 → InvC tb tn fk fp w tr im k S I L R n → I 174 = f → ∃ I' R' v', F_X11_hog_28 g (some 128) (nI N) (nI (gLost w.1 frc0 w.2.1.1 (evU f A w.2.1.1 M N) f).length) (nI lb) v (nI few) (nI c) (mk S I L R n) = some (.inr v', mk S I' L R' n) ∧ v' = aHogL (fun c => decide (f (15 + 7 * c) = 0)) (hogW w.1 w.2.1.1 f A M N) (hogI w.1 w.2.1.1 f A M N) r c v few ∧ (∀ x, ¬ scr x → S (x - 2) ≠ (14, 0) → I' x = I x) ∧ (∀ x, x ≠ 181 → R' x = R x) ∧ R' 181 0 = R 181 0 ∧ R' 181 1 = R 181 1 ∧ St S R' := by
  have hC := hB.1.1
  have mlt : ∀ d, d ∈ gLost w.1 frc0 w.2.1.1 (evU f A w.2.1.1 M N) f → d < w.2.1.1 := fun d hd => (evU_mem.mp (gLost_mem _ _ hd)).1
  have l10 := len10 mlt (gLost_evU (P := w.1) (frc := frc0) (f := f) (g := f) (A := A) (m := M) (n := N) hC).2 hC
  intro r
  induction r with
  | zero =>
    intro g c few v I R hc hg hfew hI hf
    obtain ⟨g, rfl⟩ : ∃ z, g = z + 1 := ⟨g - 1, by omega⟩
    have hs := hI.1.1
    have hb := hI.2.2.2.1.1
    have h1 : I 174 1 = nI w.2.1.1 := by rw [hf]; exact hB.1.2.1
    refine ⟨I, R, v, ?_, rfl, fun _ _ _ => rfl, fun _ _ => rfl, rfl, rfl, hs⟩
    simp only [F_X11_hog_28]
    rw [gr_128_5 hs, Option.bind_some, bd_v hb, c_calls hb, b2_some, h1, if_pos (nI_le (by omega) (by omega))]
  | succ r ih =>
    intro g c few v I R hc hg hfew hI hf
    obtain ⟨g, rfl⟩ : ∃ z, g = z + 1 := ⟨g - 1, by omega⟩
    have hs := hI.1.1
    have hw := hI.1.2.1
    have hb := hI.2.2.2.1.1
    have h1 : I 174 1 = nI w.2.1.1 := by rw [hf]; exact hB.1.2.1
    have hcC : c < w.2.1.1 := by omega
    simp only [F_X11_hog_28, F_X11_hog_112, F_X11_hog_120]
    rw [gr_128_5 hs, Option.bind_some, bd_v hb, c_calls hb, b2_some, h1, if_neg (nI_ge (by omega) (by omega)), gr_128_5 hs, Option.bind_some, bd_v hb, c_isToCome hb hC h1 hcC, b2_some, hf]
    show ∃ I' R' v', _ ∧ v' = (if (decide (f (15 + 7 * c) = 0)) = true ∧ hogW w.1 w.2.1.1 f A M N c < hogI w.1 w.2.1.1 f A M N c ∧ (v = -1 ∨ hogW w.1 w.2.1.1 f A M N c < few) then aHogL (fun c => decide (f (15 + 7 * c) = 0)) (hogW w.1 w.2.1.1 f A M N) (hogI w.1 w.2.1.1 f A M N) r (c + 1) (nI c) (hogW w.1 w.2.1.1 f A M N c) else aHogL (fun c => decide (f (15 + 7 * c) = 0)) (hogW w.1 w.2.1.1 f A M N) (hogI w.1 w.2.1.1 f A M N) r (c + 1) v few) ∧ _
    by_cases q1 : f (15 + 7 * c) = 0
    · rw [decide_eq_true q1, if_neg (by decide)]
      obtain ⟨p, g1, R1, e1, e2, e3, e4, e5, e6, e7, e8, e9⟩ := x_become hI
      obtain ⟨f', hf'⟩ : ∃ f', f' = up1 g1 (15 + 7 * c) 2 := ⟨_, rfl⟩
      have hg1 : ∀ j, j < 81 → g1 j = f j := fun j hj => by rw [e4 j hj, hf]
      have hag : ∀ j, j < 81 → f' j = up1 f (15 + 7 * c) 2 j := by rw [hf']; exact up1_ag hg1 _ _
      have hBf := hB.over c
      have hB1 := hBf.congr hag
      have cz : up1 I 182 g1 182 1 = nI w.2.1.1 := by rw [up1_self, hg1 1 (by omega)]; exact hB.1.2.1
      have s4 : F_X0_setFact (some 181) (nI c) (4 : Int32) (2 : Int32) (mk S (up1 I 182 g1) L R1 n) = some (mk S (up1 I 182 f') L R1 n) := by
        have := c_setFact (n := n) (L := L) (w := 4) e7 hC cz hcC (by decide) 2
        rw [show 11 + 7 * c + 4 = 15 + 7 * c by omega] at this
        refine Eq.trans this ?_
        rw [hf']
        refine congrArg (fun q => some (mk S q L R1 n)) (funext fun b => ?_)
        by_cases hb9 : b = 182
        · subst hb9; rw [up2_row, up1_self, up1_self]
        · rw [up2_ne _ _ _ hb9, up1_ne _ _ hb9, up1_ne _ _ hb9]
      have u1 : up1 I 182 f' 182 = f' := up1_self _ _ _
      have p9 : CPlan w.1 S R1 (up1 I 182 f') p := (e2.keep hw (fun x q _ => up1_ne _ _ (by unfold pa at q; show x ≠ 182; omega))).keepR (fun x q => by rw [e3, up2_ne _ _ _ q])
      obtain ⟨b1, b2, b3, b4, b5, b6, b7⟩ := id hB1
      obtain ⟨I2, y1, y2, y3⟩ := c_pass (L := L) (n := n) hP hw e7 (cos_t e6) npa_t e8 (I := up1 I 182 f') p9 (by rw [u1]; exact b1) (by rw [u1]; exact b3) (M := M) (by rw [u1]; exact fun d hd z => (b4 d hd z).1) (by rw [u1]; exact fun d hd z => (b5 d hd z).1) (by rw [u1]; exact b6) (by rw [u1]; exact b2) hN
      have kI : ∀ x, ¬ scr x → S (x - 2) ≠ (14, 0) → I2 x = I x := fun x z1 z2 => by
        rw [y3 x (by unfold scr at z1; show x ≠ 182; omega) (by unfold scr at z1; show x ≠ 183; omega) (by unfold scr at z1; omega) (by unfold scr at z1; omega) (by unfold scr at z1; omega) (by unfold scr at z1; omega) (by unfold scr at z1; omega) z2, up1_ne _ _ (by unfold scr at z1; show x ≠ 182; omega)]
      have kR : ∀ x, x ≠ 181 → R1 x = R x := fun x q => by rw [e3, up2_ne _ _ _ q]
      have kR2 : R1 181 0 = R 181 0 ∧ R1 181 1 = R 181 1 := by rw [e3, up2_row, up1_ne _ _ (by decide), up1_ne _ _ (by decide)]; exact ⟨rfl, rfl⟩
      have hI2 := hI.kS kI kR kR2
      have hf2 : I2 174 = f := by rw [kI _ (by unfold scr; decide) (hs.nst hw (by decide) (by decide))]; exact hf
      have eW : (gLost w.1 frc0 w.2.1.1 (evU f' A w.2.1.1 M N) f').length = hogW w.1 w.2.1.1 f A M N c := by
        unfold hogW
        rw [ag_evU hC hag, ag_lost hP frc0_ok _ _ _ hBf.1 (fun c hc => (evU_mem.mp hc).1) hag]
      have lW : hogW w.1 w.2.1.1 f A M N c ≤ 10 := by
        rw [← eW]
        exact len10 (fun d hd => (evU_mem.mp (gLost_mem _ _ hd)).1) (gLost_evU (P := w.1) (frc := frc0) (f := f') (g := f') (A := A) (m := M) (n := N) hC).2 hC
      rw [u1, eW] at y1
      have mem1 : c ∈ gLost w.1 frc0 w.2.1.1 (evU f A w.2.1.1 M N) f → 1 ≤ (gLost w.1 frc0 w.2.1.1 (evU f A w.2.1.1 M N) f).length := fun h => List.length_pos_of_mem h
      have eI : nI (gLost w.1 frc0 w.2.1.1 (evU f A w.2.1.1 M N) f).length - ((nI lb >>> (nI c &&& 31)) &&& 1) = nI (hogI w.1 w.2.1.1 f A M N c) := by
        rw [bit_at lb hlb c (by omega), hbit c hcC q1]
        unfold hogI
        by_cases z : c ∈ gLost w.1 frc0 w.2.1.1 (evU f A w.2.1.1 M N) f
        · rw [if_pos (decide_eq_true z), if_pos z, nI_sub (mem1 z)]
        · rw [if_neg (by simpa using z), if_neg z, nI_sub (Nat.zero_le _)]
      have lI : hogI w.1 w.2.1.1 f A M N c ≤ 10 := by unfold hogI; omega
      rw [gr_128_7 hs, Option.bind_some, gr_128_5 hs, Option.bind_some, bd_v (bds_t hs), e5, Option.bind_some, gr_128_7 e6, Option.bind_some, bd_v e7]
      unfold F_X0_neverBegin
      rw [bd_v e7, s4, Option.bind_some, Option.bind_some, gr_128_7 e6, Option.bind_some, bd_v e7, y1, b2_some, eI]
      have go := fun (few : Nat) (v : Int32) (h10 : few ≤ 10) => ih g (c + 1) few v I2 R1 (by omega) (by omega) h10 hI2 hf2
      have wrap : ∀ (few : Nat) (v : Int32), few ≤ 10 → ∃ I' R' v', F_X11_hog_28 g (some 128) (nI N) (nI (gLost w.1 frc0 w.2.1.1 (evU f A w.2.1.1 M N) f).length) (nI lb) v (nI few) (nI (c + 1)) (mk S I2 L R1 n) = some (.inr v', mk S I' L R' n) ∧ v' = aHogL (fun c => decide (f (15 + 7 * c) = 0)) (hogW w.1 w.2.1.1 f A M N) (hogI w.1 w.2.1.1 f A M N) r (c + 1) v few ∧ (∀ x, ¬ scr x → S (x - 2) ≠ (14, 0) → I' x = I x) ∧ (∀ x, x ≠ 181 → R' x = R x) ∧ R' 181 0 = R 181 0 ∧ R' 181 1 = R 181 1 ∧ St S R' := fun few v h10 => by
        obtain ⟨I', R', v', z1, z2, z3, z4, z5, z6, z7⟩ := go few v h10
        exact ⟨I', R', v', z1, z2, fun x q q2 => by rw [z3 x q q2, kI x q q2], fun x q => by rw [z4 x q, kR x q], by rw [z5, kR2.1], by rw [z6, kR2.2], z7⟩
      rw [nI_1]
      by_cases t1 : hogW w.1 w.2.1.1 f A M N c < hogI w.1 w.2.1.1 f A M N c
      · rw [if_neg (nI_ge t1 (by omega))]
        by_cases t2 : v = -1
        · rw [if_pos t2, if_pos ⟨rfl, t1, .inl t2⟩]
          exact wrap _ _ lW
        · rw [if_neg t2]
          by_cases t3 : few ≤ hogW w.1 w.2.1.1 f A M N c
          · rw [if_pos (nI_le t3 (by omega)), if_neg (fun z => by
              rcases z.2.2 with y | y
              · exact t2 y
              · omega)]
            exact wrap _ _ hfew
          · rw [if_neg (nI_ge (by omega) (by omega)), if_pos ⟨rfl, t1, .inr (by omega)⟩]
            exact wrap _ _ lW
      · rw [if_pos (nI_le (by omega) (by omega)), if_neg (fun z => t1 z.2.1)]
        exact wrap _ _ hfew
    · rw [decide_eq_false q1, if_pos (by decide), if_neg (fun z => by cases z.1), nI_1]
      exact ih g (c + 1) few v I R (by omega) (by omega) hfew hI hf
end HG
section HGr
variable {S : mkS} {L : mkL} {R : mkR} {n : Nat × Nat} {P : PL}
theorem e_hogL (hs : St S R) (hP : PlOK P) {C : Nat} {f : Nat → Int32} {F T A D : Nat → Nat} {M N : Nat} (hB : BI P C f F T A D M) (hN : M + N ≤ 300000) {K0 : Nat → Int32} (hKP : RPlan P K0) (hR : RBoard C f K0) : ∀ (r g c few : Nat) (l4 v : Int32) (I : mkI), c + r = C → r < g → I 198 = K0 → (∀ j, j < 10 → I 205 j = -1) → ((v = -1 ∧ l4 = 536870912) ∨ (¬ v = -1 ∧ l4 = nI few ∧ few ≤ 10)) → ∃ I', F_X12_hog_34 g (some 197) (nI N) (nI (bitsN (gLost P frc0 C (evU f A C M N) f) 0)) v l4 (nI c) (mk S I L R n) = some (aHogL (fun c => decide (f (15 + 7 * c) = 0)) (hogW P C f A M N) (hogI P C f A M N) r c v few, mk S I' L R n) ∧ scQ I I' ∧ I' 197 4 = I 197 4 := by
  have hC := hB.1.1
  have mlt : ∀ d, d ∈ gLost P frc0 C (evU f A C M N) f → d < C := fun d hd => (evU_mem.mp (gLost_mem _ _ hd)).1
  have nd := (gLost_evU (P := P) (frc := frc0) (f := f) (g := f) (A := A) (m := M) (n := N) hC).2
  obtain ⟨z1, z2⟩ := bitsN_len (fun c hc => by have := mlt c hc; omega) nd
  intro r
  induction r with
  | zero =>
    intro g c few l4 v I hc hg hK hF hi
    obtain ⟨g, rfl⟩ : ∃ z, g = z + 1 := ⟨g - 1, by omega⟩
    refine ⟨I, ?_, scQ.rf, rfl⟩
    simp only [F_X12_hog_34]
    rw [cv_197 hs, e_calls hs, b2_some, hK, hR.2.2.2.1, hR.2.1, if_pos (nI_le (by omega) (by omega))]
    rfl
  | succ r ih =>
    intro g c few l4 v I hc hg hK hF hi
    obtain ⟨g, rfl⟩ : ∃ z, g = z + 1 := ⟨g - 1, by omega⟩
    have hcC : c < C := by omega
    simp only [F_X12_hog_34, F_X12_hog_117]
    rw [cv_197 hs, e_calls hs, b2_some, hK, hR.2.2.2.1, hR.2.1, if_neg (nI_ge (by omega) (by omega)), gr_197_0 hs, Option.bind_some, li_add 8, ai_198 hs (show 8 + c < 3205 by omega), Option.bind_some, hK, (hR.2.2.2.2.2.2 c hcC).2.2.2.2.1, nI_1]
    show ∃ I', _ = some ((if (decide (f (15 + 7 * c) = 0)) = true ∧ hogW P C f A M N c < hogI P C f A M N c ∧ (v = -1 ∨ hogW P C f A M N c < few) then aHogL (fun c => decide (f (15 + 7 * c) = 0)) (hogW P C f A M N) (hogI P C f A M N) r (c + 1) (nI c) (hogW P C f A M N c) else aHogL (fun c => decide (f (15 + 7 * c) = 0)) (hogW P C f A M N) (hogI P C f A M N) r (c + 1) v few), mk S I' L R n) ∧ _
    by_cases q1 : f (15 + 7 * c) = 0
    · rw [if_pos q1, cv_197 hs]
      obtain ⟨I1, a1, a2, a3⟩ := e_aside (L := L) (n := n) hs I
      have k1 : I1 198 = K0 := by rw [a2 _ (by decide)]; exact hK
      obtain ⟨I0, hI0⟩ : ∃ J, J = up2 I1 198 (8 + c) 2 := ⟨_, rfl⟩
      have k0 : keepM I1 I0 := by rw [hI0]; exact keepM.k ⟨by omega, by omega⟩
      obtain ⟨I3, m1, m2, m3⟩ := e_lostFrom (L := L) (n := n) hs hP (hB.over c) a2 a3 k0 ((by rw [k1]; exact hKP : RPlan P (I1 198)).keep hP k0.2.2) (by rw [hI0, up2_row, k1]; exact rb_st hR hcC 2) (by rw [hI0, up2_ne _ _ _ (by decide), a2 _ (by decide)]; exact hF) hN
      have g9 := gLost_evU (P := P) (frc := frc0) (f := up1 f (15 + 7 * c) 2) (g := up1 f (15 + 7 * c) 2) (A := A) (m := M) (n := N) hC
      obtain ⟨y1, y2⟩ := bitsN_len g9.1 g9.2
      obtain ⟨u, u1, u2, u3⟩ := bit_off (bitsN (gLost P frc0 C (evU f A C M N) f) 0) z1 c (by omega)
      have tb : (bitsN (gLost P frc0 C (evU f A C M N) f) 0).testBit c = decide (c ∈ gLost P frc0 C (evU f A C M N) f) := by rw [bitsN_test, Nat.zero_testBit, Bool.false_or]
      have eu : pcn u = hogI P C f A M N c := by
        unfold hogI
        rw [tb] at u3
        rw [← z2]
        by_cases z : c ∈ gLost P frc0 C (evU f A C M N) f
        · rw [if_pos (decide_eq_true z)] at u3; rw [if_pos z]; omega
        · rw [if_neg (by simpa using z)] at u3; rw [if_neg z]; omega
      have ew : pcn (bitsN (gLost P frc0 C (evU (up1 f (15 + 7 * c) 2) A C M N) (up1 f (15 + 7 * c) 2)) 0) = hogW P C f A M N c := y2
      have lW : hogW P C f A M N c ≤ 10 := by rw [← ew]; exact pcn_10 _ y1
      have lI : hogI P C f A M N c ≤ 10 := by rw [← eu]; exact pcn_10 _ u1
      rw [a1, Option.bind_some, gr_197_0 hs, Option.bind_some, si_198 hs (show 8 + c < 3205 by omega), ← hI0, Option.bind_some, cv_197 hs, m1, b2_some, e_size y1, b2_some, u2, e_size u1, b2_some, ew, eu]
      have kK : I3 198 = K0 := by rw [m2.1 _ (by decide) (by decide) (by decide) (by decide) (by decide)]; exact hK
      have kF : ∀ j, j < 10 → I3 205 j = -1 := by rw [m2.1 _ (by decide) (by decide) (by decide) (by decide) (by decide)]; exact hF
      have wrap : ∀ (few : Nat) (l4 v : Int32), ((v = -1 ∧ l4 = 536870912) ∨ (¬ v = -1 ∧ l4 = nI few ∧ few ≤ 10)) → ∃ I', F_X12_hog_34 g (some 197) (nI N) (nI (bitsN (gLost P frc0 C (evU f A C M N) f) 0)) v l4 (nI (c + 1)) (mk S I3 L R n) = some (aHogL (fun c => decide (f (15 + 7 * c) = 0)) (hogW P C f A M N) (hogI P C f A M N) r (c + 1) v few, mk S I' L R n) ∧ scQ I I' ∧ I' 197 4 = I 197 4 := fun few l4 v hi => by
        obtain ⟨I', x1, x2, x3⟩ := ih g (c + 1) few l4 v I3 (by omega) (by omega) kK kF hi
        exact ⟨I', x1, m2.tr x2, by rw [x3, m3 4 (by decide)]⟩
      by_cases t1 : hogW P C f A M N c < hogI P C f A M N c
      · rw [if_neg (nI_ge t1 (by omega))]
        rcases hi with ⟨v1, v2⟩ | ⟨v1, v2, v3⟩
        · have t4 : nI (hogW P C f A M N c) < l4 := by rw [v2]; exact nI_lt (b := 536870912) (by omega) (by omega)
          rw [if_pos t4, if_pos ⟨decide_eq_true q1, t1, .inl v1⟩]
          exact wrap _ _ _ (.inr ⟨nI_nm1 (by omega), rfl, lW⟩)
        · by_cases t3 : hogW P C f A M N c < few
          · rw [v2, if_pos (nI_lt t3 (by omega)), if_pos ⟨decide_eq_true q1, t1, .inr t3⟩]
            exact wrap _ _ _ (.inr ⟨nI_nm1 (by omega), rfl, lW⟩)
          · rw [v2, if_neg (nI_nlt (by omega) (by omega)), if_neg (fun z => by
              rcases z.2.2 with y | y
              · exact v1 y
              · exact t3 y)]
            exact wrap _ _ _ (.inr ⟨v1, rfl, v3⟩)
      · rw [if_pos (nI_le (by omega) (by omega)), if_neg (fun z => t1 z.2.1)]
        exact wrap _ _ _ hi
    · rw [if_neg q1, if_neg (fun z => q1 (of_decide_eq_true z.1))]
      exact ih g (c + 1) few l4 v I (by omega) (by omega) hK hF hi
end HGr
theorem k_hog (Ls : Nat) (xs : Nat → Int32) (a : Int32) : Good Ls xs (F_L_hog (some 128) a (some 220)) (F_X12_hog (some 197) a) := by
  intro k S I L R n ⟨hl, tb, tn, fk, fp, w, tr, im, hC, hR, hG⟩
  obtain ⟨hs, hb, ⟨p, hpl, hp⟩, ⟨c1, c2⟩, hP, hRP, hRB⟩ := inv_all hC hR hG
  obtain ⟨-, g3, g4, F, T, A, D, M, hB, hM, hgo⟩ := hG.opn
  have hB' : BI w.1 w.2.1.1 (I 174) F T A D M := hB.congr (fun j hj => x_cells hC hj)
  by_cases h1 : wI a 1 999 = true
  · obtain ⟨j, hj1, hj2, rfl⟩ := (wI_iff (lo := 1) (hi := 999) (by decide) (by decide)).mp h1
    obtain ⟨p, g1, I', R', e1, e2, e3, e4, e5, e6, e7, e8, kI⟩ := x_foresee hC hP hB' (q := j) (by omega)
    have hB1 := hB'.congr e2
    have kR : ∀ x, x ≠ 181 → R' x = R x := fun x q => by rw [e1, up2_ne _ _ _ q]
    have kR2 : R' 181 0 = R 181 0 ∧ R' 181 1 = R 181 1 := by rw [e1, up2_row, up1_ne _ _ (by decide), up1_ne _ _ (by decide)]; exact ⟨rfl, rfl⟩
    have hC' := hC.kS kI kR kR2
    have kb : I' 174 = I 174 := kI _ (by unfold scr; decide) (hs.nst hC.1.2.1 (by decide) (by decide))
    have hl1 : ∀ c ∈ evU g1 A w.2.1.1 M j, c < w.2.1.1 := fun c hc => (evU_mem.mp hc).1
    have V := BV.run hP frc0_ok _ _ hB1.1 hl1
    have t1 : I' 182 1 = nI w.2.1.1 := by
      rw [e4]; exact (hB1.pass hP frc0_ok (n := j) (by omega)).1.2.1
    have eE := ag_evU (A := A) c1 e2 j M
    have eL := ag_lost hP frc0_ok (evU (I 174) A w.2.1.1 M j) (I 174) g1 hB'.1 (fun c hc => (evU_mem.mp hc).1) e2
    obtain ⟨b1, b2⟩ := aCnt_ok c1 (I' 182) 3
    have hbit : ∀ c, c < w.2.1.1 → I 174 (15 + 7 * c) = 0 → (bitsN (aCnt w.2.1.1 (I' 182) 3) 0).testBit c = decide (c ∈ gLost w.1 frc0 w.2.1.1 (evU (I 174) A w.2.1.1 M j) (I 174)) := fun c hc z1 => by
      rw [bitsN_test, Nat.zero_testBit, Bool.false_or]
      refine decide_eq_decide.mpr ?_
      unfold aCnt
      rw [evL_mem, ← eL, ← eE]
      simp only [Nat.zero_le, Nat.zero_add, hc, true_and, decide_eq_true_eq]
      rw [e4, fin_st2 V hc (by omega)]
      have z1' : g1 (15 + 7 * c) = 0 := by rw [e2 _ (by omega)]; exact z1
      obtain ⟨y1, y2, -⟩ := hB1.2.2.2.2.1 c hc z1'
      by_cases hq : c ∈ evU g1 A w.2.1.1 M j
      · rcases gRun_at hP frc0_ok _ g1 c hB1.1 hl1 evU_nodup hq with ⟨a1, a2, -⟩ | ⟨a1, a2, -⟩
        · rw [a2, if_neg (fun y => absurd y.1 (by decide))]
          exact ⟨fun _ => a1, fun _ => rfl⟩
        · rw [a2]
          constructor
          · intro y
            exfalso
            by_cases q : (1 : Int32) = 1 ∧ A c + D c < M + j
            · rw [if_pos q] at y; exact absurd y (by decide)
            · rw [if_neg q] at y; exact absurd y (by decide)
          · intro y; exact absurd y a1
      · have o := gRun_other (j := 15 + 7 * c) hP frc0_ok (by omega) _ _ hB1.1 hl1 (fun d hd => by have : d ≠ c := fun w => hq (w ▸ hd); omega)
        rw [o, z1', if_neg (fun y => absurd y.1 (by decide))]
        exact ⟨fun y => absurd y (by decide), fun y => absurd (gLost_mem _ _ y) hq⟩
    obtain ⟨I2, R2, v, q1, q2, q3, q4, q5, q6, q7⟩ := c_hogL (N := j) hP hB' (by omega) b1 hbit w.2.1.1 mm_N 0 0 (-1) I' R' (by omega) (by show w.2.1.1 < 1000000; omega) (by omega) hC' kb
    have hx : F_X11_hog (some 128) (nI j) (mk S I L R n) = some (.inr v, mk S I2 L R2 n) := by
      unfold F_X11_hog
      rw [x_minutes hC, if_pos h1, b3_some, cv_128 hs, e3, b2_some, gr_128_7 e5, Option.bind_some, bd_v e6, c_bitsOf e6 c1 t1, b2_some, eE, eL]
      exact q1
    have kI2 : ∀ x, ¬ scr x → S (x - 2) ≠ (14, 0) → I2 x = I x := fun x z1 z2 => by rw [q3 x z1 z2, kI x z1 z2]
    obtain ⟨r1, r2, r3, r4⟩ := q_ref hC hR kI2 (g1 := I 174) (fun _ _ => rfl) 0
    obtain ⟨I3, m1, m2, m3⟩ := e_lostNow (L := up2 L 220 0 v.toInt64) (n := n) q7 hP hB' r2 r3 r4 (N := j) (by omega)
    have kK : I3 198 = (up2 I2 197 4 0) 198 := m2.1 _ (by decide) (by decide) (by decide) (by decide) (by decide)
    obtain ⟨I4, x1, x2, x3⟩ := e_hogL (L := up2 L 220 0 v.toInt64) (n := n) q7 hP hB' (N := j) (by omega) r2 r3 w.2.1.1 mm_N 0 0 536870912 (-1) I3 (by omega) (by show w.2.1.1 < 1000000; omega) kK (by rw [m2.1 _ (by decide) (by decide) (by decide) (by decide) (by decide)]; exact r4) (.inl ⟨rfl, rfl⟩)
    rw [← q2] at x1
    have x1' : F_X12_hog_34 mm_N (some 197) (nI j) (nI (bitsN (gLost w.1 frc0 w.2.1.1 (evU (I 174) A w.2.1.1 M j) (I 174)) 0)) (-1) 536870912 0 (mk S I3 (up2 L 220 0 v.toInt64) R2 n) = some (v, mk S I4 (up2 L 220 0 v.toInt64) R2 n) := x1
    have sc : scQ I2 I4 := (scQ.m4.tr m2).tr x2
    refine pk_val hl hC hR hG (L_hog_0 hs q7 hx) kI2 (fun x q => by rw [q4 x q, kR x q]) (by rw [q5, q6]; exact kR2) (I'' := I4) ?_ (by rw [x3, m3 4 (by decide), up2_self]) sc.fr sc.inv
    unfold F_X12_hog
    rw [pi_197_4 q7, Option.bind_some, e_isSoon, b2_some, h1, if_neg (by decide), cv_197 q7, m1, b2_some, x1']
  · have hx : F_X11_hog (some 128) a (mk S I L R n) = thr "java/lang/IllegalArgumentException" S I L R n := by
      unfold F_X11_hog
      rw [x_minutes hC, if_neg h1, b3_thr2]
    refine pk_thr (t := 1) (by decide) hl hC hR hG (L_hog_1 hs hx) (v := 0) ?_
    unfold F_X12_hog
    rw [pi_197_4 hs, Option.bind_some, e_isSoon, b2_some, if_pos (by rw [b2i_0]; simpa using h1), cv_197 hs, fails_q hs, b2_some]
