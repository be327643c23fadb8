/-! crossings: the class, one way -/
def cmX (P : PL) (F T A : Nat → Nat) (fr : Nat → Int32) (c : Nat) : Int32 := if fr c = -1 then aComes P (nI (F c)) (nI (T c)) (nI (A c)) (nI c) else fr c
theorem cmX_came {P : PL} {C : Nat} {g : Nat → Int32} {F T A D : Nat → Nat} (hV : BV P C g F T A D) (fr : Nat → Int32) {c : Nat} (hc : c < C) : cameT P fr g c = cmX P F T A fr c := by
  obtain ⟨⟨e1, -⟩, ⟨e2, -⟩, -, ⟨e3, -⟩, -⟩ := hV.2.2 c hc
  unfold cameT cmX
  rw [e1, e2, e3]
def brB (P : PL) (fr : Nat → Int32) (C pk : Nat) : List Nat → (Nat → Int32) → Bool
  | [], _ => true
  | c :: cs, g => if gCord P fr C g c = -1 ∧ pk.testBit c = true then false else brB P fr C pk cs (gStep P fr C g c)
theorem brB_iff {P : PL} {fr : Nat → Int32} {C pk : Nat} : ∀ (l : List Nat) (g : Nat → Int32), brB P fr C pk l g = true ↔ ∀ d, pk.testBit d = true → d ∉ gLost P fr C l g
  | [], _ => ⟨fun _ _ _ => List.not_mem_nil, fun _ => rfl⟩
  | c :: cs, g => by
    rw [brB, gLost]
    by_cases e : gCord P fr C g c = -1
    · rw [if_pos e]
      by_cases e2 : pk.testBit c = true
      · rw [if_pos ⟨e, e2⟩]
        exact ⟨fun h => (by cases h), fun h => absurd List.mem_cons_self (h c e2)⟩
      · rw [if_neg (fun q => e2 q.2), brB_iff cs]
        constructor
        · intro h d hd q
          rcases List.mem_cons.mp q with q | q
          · exact e2 (q ▸ hd)
          · exact h d hd q
        · exact fun h d hd q => h d hd (List.mem_cons_of_mem _ q)
    · rw [if_neg e, if_neg (fun q => e q.1), brB_iff cs]
def kC (I I' : mkI) : Prop := ∀ x, x ≠ 149 → x ≠ 150 → I' x = I x
theorem cos_c {S : mkS} {R : mkR} (hs : St S R) : CoS S R 147 148 149 150 151 152 := ⟨⟨S_147 hs, by decide⟩, ⟨R_147_0 hs, R_147_2 hs, R_147_3 hs, R_147_4 hs, R_147_5 hs⟩, ⟨S_148 hs, S_149 hs, S_150 hs, S_151 hs, S_152 hs⟩, by decide, by decide, by decide⟩
theorem npa_c : NPa 174 147 148 149 150 151 152 := by unfold NPa pa; omega
theorem CoR.cg {W nC C : Nat} {g : Nat → Int32} {t0 : Nat} {X Y X' Y' : Nat → Int32} (h : CoR W nC C g t0 X Y) (hX : ∀ l, l < W → X' l = X l) (hY : ∀ k, k < nC → Y' k = Y k) : CoR W nC C g t0 X' Y' :=
  ⟨fun l hl => by rw [hX l hl]; exact h.1 l hl, fun k hk => by rw [hY k hk]; exact h.2 k hk⟩
section CR
variable {S : mkS} {L : mkL} {R : mkR} {n : Nat × Nat} {P : PL} {C M p co N : Nat} {f : Nat → Int32} {F T A D : Nat → Nat}
theorem ai_154' (hs : St S R) {I : mkI} {c : Nat} (h : c < 10) : aI (mk S I L R n) (some 154) 0 (nI c) = some (I 154 c) := mk_aJ0 (S_154 hs) h (by decide)
theorem c_rewind (hs : St S R) (I : mkI) : ∃ I', F_X1_rewind (some 147) (mk S I L R n) = some (mk S I' L R n) ∧ (∀ j, j < 8 → I' 149 j = I 151 j) ∧ (∀ j, j < 3 → I' 150 j = I 152 j) ∧ kC I I' := by
  have hk := cos_c hs
  have c1 : cpI (mk S I L R n) (some 151) (0 : Int32) (some 149) (0 : Int32) (8 : Int32) = some (mk S (up1 I 149 (va_cpy (I 151) (I 149) 0 0 8)) L R n) := mk_cpI (sp := 0) (dp := 0) (nn := 8) (S_151 hs) (S_149 hs) (by decide) (by decide) (by decide) (by decide) (by decide)
  obtain ⟨I1, hI1⟩ : ∃ I1, I1 = up1 I 149 (va_cpy (I 151) (I 149) 0 0 8) := ⟨_, rfl⟩
  rw [← hI1] at c1
  have c2 : cpI (mk S I1 L R n) (some 152) (0 : Int32) (some 150) (0 : Int32) (3 : Int32) = some (mk S (up1 I1 150 (va_cpy (I1 152) (I1 150) 0 0 3)) L R n) := mk_cpI (sp := 0) (dp := 0) (nn := 3) (S_152 hs) (S_150 hs) (by decide) (by decide) (by decide) (by decide) (by decide)
  refine ⟨up1 I1 150 (va_cpy (I1 152) (I1 150) 0 0 3), ?_, fun j hj => ?_, fun j hj => ?_, fun x z1 z2 => ?_⟩
  · unfold F_X1_rewind
    rw [cq_4 hk, Option.bind_some, cq_2 hk, Option.bind_some, c1, Option.bind_some, cq_5 hk, Option.bind_some, cq_3 hk, Option.bind_some, c2, Option.bind_some]
  · rw [up1_ne _ _ (show (149 : Nat) ≠ 150 by decide), hI1, up1_self]
    show (if 0 ≤ j ∧ j < 0 + 8 then I 151 (0 + (j - 0)) else _) = _
    rw [if_pos ⟨by omega, by omega⟩, Nat.zero_add, Nat.sub_zero]
  · rw [up1_self]
    show (if 0 ≤ j ∧ j < 0 + 3 then I1 152 (0 + (j - 0)) else _) = _
    rw [if_pos ⟨by omega, by omega⟩, Nat.zero_add, Nat.sub_zero, hI1, up1_ne _ _ (by decide)]
  · rw [up1_ne _ _ z2, hI1, up1_ne _ _ z1]
theorem c_brL (hs : St S R) (hP : PlOK P) (hb : BdS S R 170 174 co) (hpl : R 170 2 = some p) (hV0 : BV P C f F T A D) {fr : Nat → Int32} (hf : frcOK P fr) {pk : Nat} (hN : N ≤ 10) : ∀ (cs : List Nat) (g' i : Nat) (I : mkI) (g : Nat → Int32) (t0 : Nat), i + cs.length = N → cs.length < g' → I 147 1 = nI N → (∀ j, j < cs.length → I 148 (i + j) = nI (cs.getD j 0)) → CPlan P S R I p → I 174 = f → (∀ c, c < C → I 154 c = cmX P F T A fr c) → BV P C g F T A D → CoR (pW P) (pC P) C g t0 (I 149) (I 150) → (∀ d ∈ cs, d < C ∧ g (15 + 7 * d) = 0 ∧ t0 ≤ A d) → cs.Nodup → cs.Pairwise (fun a b => A a ≤ A b) → ∃ I', F_X2_bringsTogether_9 g' (some 146) (some 170) (nI pk) (nI i) (mk S I L R n) = some (b2i (brB P fr C pk cs g), mk S I' L R n) ∧ kC I I' := by
  have w2 := hP.2.1
  have hC := hV0.1
  have hk := cos_c hs
  intro cs
  induction cs with
  | nil =>
    intro g' i I g t0 hi hg hn hr hp hI hcm hV hR hsd hnd hpw
    obtain ⟨g', rfl⟩ : ∃ z, g' = z + 1 := ⟨g' - 1, by omega⟩
    have hiN : i = N := by simpa using hi
    refine ⟨I, ?_, fun _ _ _ => rfl⟩
    simp only [F_X2_bringsTogether_9, F_X1_many]
    rw [gr_146_0 hs, Option.bind_some, cq_v hk, cq_1 hk, Option.bind_some, b2_some, hn, if_pos (nI_le (by omega) (by omega)), rZ_1]
    rfl
  | cons c cs ih =>
    intro g' i I g t0 hi hg hn hr hp hI hcm hV hR hsd hnd hpw
    obtain ⟨g', rfl⟩ : ∃ z, g' = z + 1 := ⟨g' - 1, by omega⟩
    have hi' : i + (cs.length + 1) = N := hi
    obtain ⟨hc, h0, ht⟩ := hsd c List.mem_cons_self
    rw [List.nodup_cons] at hnd
    rw [List.pairwise_cons] at hpw
    obtain ⟨⟨e1, ha⟩, ⟨e2, -⟩, -, ⟨e3, hA⟩, e4, -, hD⟩ := hV.2.2 c hc
    have r0 : I 148 i = nI c := by have := hr 0 (by simp); simpa using this
    have hat : F_X1_callAt (some 147) (nI i) (mk S I L R n) = some (nI c, mk S I L R n) := by
      unfold F_X1_callAt F_X1_callAt_28
      rw [if_neg (nI_pos (by omega)), cq_1 hk, Option.bind_some, hn, if_neg (nI_ge (by omega) (by omega)), if_neg (show ¬ (10 : Int32) ≤ nI i from nI_ge (b := 10) (by omega) (by omega)), cq_0 hk, Option.bind_some, cq_ao hk (by omega), r0, Option.bind_some]
    obtain ⟨e, he, hce⟩ := cameT_lt hP hV hf hc
    have ecm : I 154 c = nI e := by rw [hcm c hc, ← cmX_came hV fr hc, hce]
    obtain ⟨v, hv9⟩ : ∃ v, v = gCord P fr C g c := ⟨_, rfl⟩
    have etk : tkV P (I 149) (I 150) (F c) e (nI (A c)) = v := by
      rw [tkV_cord hP hR ht (by omega) ha he, hv9]
      unfold gCord
      rw [e1, e3, hce]
    have ftk := c_takeCord (L := L) (n := n) hP hk hp (show F c < 8 by omega) (show e < 8 by omega) (nI (A c)) (nI (A c + D c))
    rw [etk] at ftk
    obtain ⟨I1, hI1⟩ : ∃ I1, I1 = hldI I 149 150 (F c) e v (nI (A c + D c)) := ⟨_, rfl⟩
    rw [← hI1] at ftk
    have k1 : kC I I1 := fun x z1 z2 => by rw [hI1, hldI_ne z1 z2]
    have hR1 : CoR (pW P) (pC P) C (gStep P fr C g c) (A c) (I1 149) (I1 150) := by
      rw [hI1, hldI_lf (by decide), hldI_cf (by decide), hv9]
      exact CoR.step hP hV hf hc h0 hR ht he hce
    have hV1 := hV.step hP hf hc
    obtain ⟨I', q1, q2⟩ := ih g' (i + 1) I1 (gStep P fr C g c) (A c) (by omega) (by simp at hg; omega) (by rw [k1 _ (by decide) (by decide)]; exact hn) (fun j hj => by
      rw [k1 _ (by decide) (by decide)]
      have := hr (j + 1) (by simp; omega)
      rw [show i + 1 + j = i + (j + 1) by omega, this]
      simp) (hp.kk (fun x hx _ => k1 x (by unfold pa at hx; omega) (by unfold pa at hx; omega)) (fun _ _ => rfl)) (by rw [k1 _ (by decide) (by decide)]; exact hI) (fun d hd => by rw [k1 _ (by decide) (by decide)]; exact hcm d hd) hV1 hR1 (fun d hd => by
        obtain ⟨z1, z2, z3⟩ := hsd d (List.mem_cons_of_mem _ hd)
        have z4 : d ≠ c := fun q => hnd.1 (q ▸ hd)
        exact ⟨z1, by rw [gStep_other hP hV hf hc (by omega) (by omega) (by omega) (by omega)]; exact z2, hpw.1 d hd⟩) hnd.2 hpw.2
    have h10 : ¬ (10 : Int32) ≤ nI c := nI_ge (b := 10) (by omega) (by omega)
    have ebit : ((nI pk >>> (nI c &&& 31)) &&& (1 : Int32) = 1) ↔ pk.testBit c = true := by
      have := hasB_nI (v := pk) (l := c) (by omega)
      unfold hasB at this
      rw [← this, decide_eq_true_eq]
    rw [brB, ← hv9]
    by_cases hz : v = -1 ∧ pk.testBit c = true
    · rw [if_pos hz]
      refine ⟨I1, ?_, k1⟩
      simp only [F_X2_bringsTogether_9, F_X2_bringsTogether_53, F_X1_many]
      rw [gr_146_0 hs, Option.bind_some, cq_v hk, cq_1 hk, Option.bind_some, b2_some, hn, if_neg (nI_ge (by omega) (by omega)), gr_146_0 hs, Option.bind_some, cq_v hk, hat, b2_some, if_neg (nI_pos (by omega)), if_neg h10, gr_146_2 hs, Option.bind_some, ai_154' hs (by omega), Option.bind_some, ecm, bd_v hb, fc_2 hb hV0 hI hc, b2_some, gr_146_0 hs, Option.bind_some, bd_p hb hpl, Option.bind_some, bd_v hb, fc_0 hb hV0 hI hc, b2_some, bd_v hb, fc_e hb hV0 hI hc, b2_some, cq_v hk, ftk, b2_some, if_pos hz.1, if_pos (ebit.mpr hz.2), rZ_0]
    · rw [if_neg hz]
      refine ⟨I', ?_, fun x z1 z2 => by rw [q2 x z1 z2, k1 x z1 z2]⟩
      rw [← q1]
      simp only [F_X2_bringsTogether_9, F_X2_bringsTogether_53, F_X2_bringsTogether_112, F_X1_many]
      rw [gr_146_0 hs, Option.bind_some, cq_v hk, cq_1 hk, Option.bind_some, b2_some, hn, if_neg (nI_ge (by omega) (by omega)), gr_146_0 hs, Option.bind_some, cq_v hk, hat, b2_some, if_neg (nI_pos (by omega)), if_neg h10, gr_146_2 hs, Option.bind_some, ai_154' hs (by omega), Option.bind_some, ecm, bd_v hb, fc_2 hb hV0 hI hc, b2_some, gr_146_0 hs, Option.bind_some, bd_p hb hpl, Option.bind_some, bd_v hb, fc_0 hb hV0 hI hc, b2_some, bd_v hb, fc_e hb hV0 hI hc, b2_some, cq_v hk, ftk, b2_some, nI_1]
      by_cases z1 : v = -1
      · rw [if_pos z1, if_neg (fun q => hz ⟨z1, ebit.mp q⟩)]
      · rw [if_neg z1]
end CR
