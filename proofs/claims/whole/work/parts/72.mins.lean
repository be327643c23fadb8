/-! the reference: minutes one behind another; the class: the trial board -/
theorem gLost_sub {P : PL} {frc : Nat → Int32} {C : Nat} : ∀ (l : List Nat) (g : Nat → Int32), (gLost P frc C l g).Sublist l
  | [], _ => List.Sublist.slnil
  | c :: l, g => by
    simp only [gLost]
    split
    · exact List.Sublist.cons₂ c (gLost_sub l _)
    · exact List.Sublist.cons c (gLost_sub l _)
theorem bitsN_or : ∀ (l : List Nat) (v : Nat), bitsN l v = v ||| bitsN l 0
  | [], v => by show v = v ||| 0; rw [Nat.or_zero]
  | c :: l, v => by
    show bitsN l (v ||| 2 ^ c) = v ||| bitsN l (0 ||| 2 ^ c)
    rw [bitsN_or l (v ||| 2 ^ c), bitsN_or l (0 ||| 2 ^ c), Nat.zero_or, Nat.or_assoc]
theorem bitsN_len {l : List Nat} (h : ∀ c ∈ l, c < 10) (hn : l.Nodup) : bitsN l 0 < 1024 ∧ pcn (bitsN l 0) = l.length := by
  refine ⟨bitsN_lt l 0 h (by decide), ?_⟩
  rw [bitsN_pcn l 0 h (by decide) hn (fun c _ => Nat.zero_testBit c)]
  have : pcn 0 = 0 := by decide
  omega
theorem gLost_evU {P : PL} {frc : Nat → Int32} {C : Nat} {f g : Nat → Int32} {A : Nat → Nat} {m n : Nat} (hC : C ≤ 10) : (∀ c ∈ gLost P frc C (evU f A C m n) g, c < 10) ∧ (gLost P frc C (evU f A C m n) g).Nodup :=
  ⟨fun c hc => by have := (evU_mem.mp (gLost_mem _ _ hc)).1; omega, List.Pairwise.sublist (gLost_sub _ _) evU_nodup⟩
theorem evM_evU {f : Nat → Int32} {A : Nat → Nat} {C m : Nat} : evM f A C m = evU f A C m 1 := by
  show _ = evM f A C m ++ []; rw [List.append_nil]
def MinS (P : PL) (C : Nat) (f : Nat → Int32) (A : Nat → Nat) (M k : Nat) (I0 I : mkI) : Prop := keepM I0 I ∧ RBoard C (fin_ C (M + k) (gRun P (I0 205) C (evU f A C M k) f)) (I 198)
section RMn
variable {S : mkS} {L : mkL} {R : mkR} {n : Nat × Nat} {P : PL}
theorem MinS.zero {C : Nat} {f : Nat → Int32} {F T A D : Nat → Nat} {M : Nat} (hB : BI P C f F T A D M) (hM : M ≤ 300000) {I : mkI} (h : RBoard C f (I 198)) : MinS P C f A M 0 I I := by
  refine ⟨keepM.rf, ?_⟩
  show RBoard C (fin_ C (M + 0) f) (I 198)
  rw [Nat.add_zero, hB.fin0 hM]
  exact h
theorem e_minK (hs : St S R) (hP : PlOK P) {C : Nat} {f : Nat → Int32} {F T A D : Nat → Nat} {M : Nat} (hB : BI P C f F T A D M) {I0 I : mkI} (hKP : RPlan P (I0 198)) (hf : frcOK P (I0 205)) {k : Nat} (hk : M + k + 1 ≤ 300000) (h : MinS P C f A M k I0 I) : ∃ I', F_X12_minute (some 197) (mk S I L R n) = some (mk S I' L R n) ∧ MinS P C f A M (k + 1) I0 I' ∧ I' 197 22 = nI (bitsN (gLost P (I0 205) C (evM f A C (M + k)) (gRun P (I0 205) C (evU f A C M k) f)) 0) := by
  obtain ⟨hk1, hk2⟩ := h
  have hl : ∀ c ∈ evU f A C M k, c < C := fun c hc => (evU_mem.mp hc).1
  have hC := hB.1.1
  have V := BV.run hP hf _ _ hB.1 hl
  have ef : I 205 = I0 205 := hk1.1 _ (by decide) (by decide) (by decide) (by decide)
  have hI : BInv P C (fin_ C (M + k) (gRun P (I0 205) C (evU f A C M k) f)) := by
    have W := V.fin (m := M + k)
    refine ⟨⟨M + k, by omega, by unfold fin_; rw [up1_self]⟩, fun c hc => ?_⟩
    obtain ⟨⟨e1, ha⟩, ⟨e2, hb⟩, -⟩ := W.2.2 c hc
    exact ⟨⟨F c, ha, e1⟩, T c, hb, e2⟩
  obtain ⟨I', q1, q2, q3, q4⟩ := e_minute (L := L) (n := n) hs hP I (hKP.keep hP hk1.2.2) hk2 hI (by rw [ef]; exact hf)
  have ms := min_sim hP hf (show M + k ≤ 300000 by omega) (q := qq f A (M + k)) V (fun d hd => by
    simp only [qq, Bool.and_eq_true, decide_eq_true_eq]
    have hg : A d = M + k → gRun P (I0 205) C (evU f A C M k) f (15 + 7 * d) = f (15 + 7 * d) := fun hA => gRun_other hP hf (by omega) _ _ hB.1 hl (fun c hc => by
      have := (evU_mem.mp hc).2.2.2
      have : c ≠ d := fun q => by subst q; omega
      omega)
    constructor
    · rintro ⟨z1, z2⟩; exact ⟨by rw [hg z2]; exact z1, z2⟩
    · rintro ⟨z1, z2⟩; exact ⟨by rw [← hg z2]; exact z1, z2⟩)
  rw [ef] at q2 q3
  refine ⟨I', q4, ⟨hk1.tr q1, ?_⟩, ?_⟩
  · rw [ms.1] at q2
    rw [evU_tail, gRun_app, ← Nat.add_assoc]
    exact q2
  · rw [q3, ms.2]
    exact orBits_nI _ 0 (fun c hc => by have := (evM_mem.mp (gLost_mem _ _ hc)).1; omega)
end RMn
theorem cos_b {S : mkS} {R : mkR} (hs : St S R) : CoS S R 175 176 177 178 179 180 := ⟨⟨S_175 hs, by decide⟩, ⟨R_175_0 hs, R_175_2 hs, R_175_3 hs, R_175_4 hs, R_175_5 hs⟩, ⟨S_176 hs, S_177 hs, S_178 hs, S_179 hs, S_180 hs⟩, by decide, by decide, by decide⟩
theorem cos_t {S : mkS} {R : mkR} (hs : St S R) : CoS S R 183 184 185 186 187 188 := ⟨⟨S_183 hs, by decide⟩, ⟨R_183_0 hs, R_183_2 hs, R_183_3 hs, R_183_4 hs, R_183_5 hs⟩, ⟨S_184 hs, S_185 hs, S_186 hs, S_187 hs, S_188 hs⟩, by decide, by decide, by decide⟩
theorem bds_t {S : mkS} {R : mkR} (hs : St S R) : BdS S R 181 182 183 := ⟨S_181 hs, R_181_0 hs, R_181_1 hs, S_182 hs, by decide, by decide⟩
theorem npa_b : NPa 174 175 176 177 178 179 180 := by unfold NPa pa; omega
theorem npa_t : NPa 182 183 184 185 186 187 188 := by unfold NPa pa; omega
section CFo
variable {S : mkS} {I : mkI} {L : mkL} {R : mkR} {n : Nat × Nat} {P : PL}
/-- a board becomes another one -/
theorem c_become {b ca co b2 ca2 co2 p : Nat} (h1 : BdS S R b ca co) (h2 : BdS S R b2 ca2 co2) (hb : b ≠ b2) (hpl : R b2 2 = some p) : F_X0_become (some b) (some b2) (mk S I L R n) = some (mk S (up1 I ca (va_cpy (I ca2) (I ca) 0 0 81)) L (up2 R b 2 (some p)) n) := by
  have k1 : BdS S (up2 R b 2 (some p)) b ca co := by
    obtain ⟨a1, a2, a3, a4⟩ := h1
    exact ⟨a1, by rw [up2_row, up1_ne _ _ (by decide)]; exact a2, by rw [up2_row, up1_ne _ _ (by decide)]; exact a3, a4⟩
  have k2 : BdS S (up2 R b 2 (some p)) b2 ca2 co2 := by
    obtain ⟨a1, a2, a3, a4⟩ := h2
    exact ⟨a1, by rw [up2_ne _ _ _ (fun q => hb q.symm)]; exact a2, by rw [up2_ne _ _ _ (fun q => hb q.symm)]; exact a3, a4⟩
  have c1 : cpI (mk S I L (up2 R b 2 (some p)) n) (some ca2) (0 : Int32) (some ca) (0 : Int32) (81 : Int32) = some (mk S (up1 I ca (va_cpy (I ca2) (I ca) 0 0 81)) L (up2 R b 2 (some p)) n) := mk_cpI (sp := 0) (dp := 0) (nn := 81) h2.2.2.2.1 h1.2.2.2.1 (by decide) (by decide) (by decide) (by decide) h1.2.2.2.2.2
  unfold F_X0_become
  rw [bd_p h2 hpl, Option.bind_some, mk_pR (by rw [h1.1]) rfl h1.2.2.2.2.1, Option.bind_some, bd_g k2, Option.bind_some, bd_g k1, Option.bind_some, c1, Option.bind_some]
theorem cpy81 {f g : Nat → Int32} {j : Nat} (h : j < 81) : va_cpy f g 0 0 81 j = f j := by
  show (if 0 ≤ j ∧ j < 0 + 81 then f (0 + (j - 0)) else g j) = f j
  rw [if_pos ⟨by omega, by omega⟩, Nat.zero_add, Nat.sub_zero]
variable {tb : Nat → Nat} {tn : Nat} {fk fp : Int32} {w : WD} {tr : TR} {im : IM} {k : Nat}
/-- the trial board becomes the board -/
theorem x_become (hC : InvC tb tn fk fp w tr im k S I L R n) : ∃ p g1 R', R 170 2 = some p ∧ CPlan w.1 S R I p ∧ R' = up2 R 181 2 (some p) ∧ (∀ j, j < 81 → g1 j = I 174 j) ∧ F_X0_become (some 181) (some 170) (mk S I L R n) = some (mk S (up1 I 182 g1) L R' n) ∧ St S R' ∧ BdS S R' 181 182 183 ∧ R' 181 2 = some p ∧ CPlan w.1 S R' (up1 I 182 g1) p := by
  have hs := hC.1.1
  obtain ⟨hb, ⟨p, hpl, hp⟩, -⟩ := id hC.2.2.2.1
  have hR1 : ∀ x, x ≠ 181 → up2 R 181 2 (some p) x = R x := fun x q => up2_ne _ _ _ q
  have s1' : St S (up2 R 181 2 (some p)) := by
    refine ⟨hs.1, fun q hq => ?_⟩
    by_cases e : q.1 = 181
    · have key : ∀ q ∈ stR, q.1 = 181 → q.2.1 = 0 ∨ q.2.1 = 1 := by decide +kernel
      rw [e, up2_row, up1_ne _ _ (by rcases key q hq e with e2 | e2 <;> omega), ← e]; exact hs.2 q hq
    · rw [hR1 _ e]; exact hs.2 q hq
  refine ⟨p, va_cpy (I 174) (I 182) 0 0 81, _, hpl, hp, rfl, fun j hj => cpy81 hj, c_become (bds_t hs) hb (by decide) hpl, s1', bds_t s1', up2_self _ _ _ _, ?_⟩
  exact (hp.keep hC.1.2.1 (fun x q _ => up1_ne _ _ (by unfold pa at q; show x ≠ 182; omega))).keepR hR1
theorem x_foresee (hC : InvC tb tn fk fp w tr im k S I L R n) (hP : PlOK w.1) {F T A D : Nat → Nat} {M : Nat} (hB : BI w.1 w.2.1.1 (I 174) F T A D M) {q : Nat} (hq : M + q ≤ 300000) : ∃ p g1 I' R', R' = up2 R 181 2 (some p) ∧ (∀ j, j < 81 → g1 j = I 174 j) ∧ F_X11_foresee (some 128) (nI q) (mk S I L R n) = some (nI (gLost w.1 frc0 w.2.1.1 (evU g1 A w.2.1.1 M q) g1).length, mk S I' L R' n) ∧ I' 182 = fin_ w.2.1.1 (M + q) (gRun w.1 frc0 w.2.1.1 (evU g1 A w.2.1.1 M q) g1) ∧ St S R' ∧ BdS S R' 181 182 183 ∧ R' 181 2 = some p ∧ CPlan w.1 S R' I' p ∧ ∀ x, ¬ scr x → S (x - 2) ≠ (14, 0) → I' x = I x := by
  have hs := hC.1.1
  have hw := hC.1.2.1
  obtain ⟨p, g1, R', e1, e2, e3, e4, e5, e6, e7, e8, e9⟩ := x_become hC
  have hB1 := hB.congr e4
  obtain ⟨b1, b2, b3, b4, b5, b6, b7⟩ := hB1
  have u1 : up1 I 182 g1 182 = g1 := up1_self _ _ _
  obtain ⟨I', q1, q2, q3⟩ := c_pass (L := L) (n := n) hP hw e7 (cos_t e6) npa_t e8 (I := up1 I 182 g1) e9 (by rw [u1]; exact b1) (by rw [u1]; exact b3) (M := M) (by rw [u1]; exact fun d hd z => (b4 d hd z).1) (by rw [u1]; exact fun d hd z => (b5 d hd z).1) (by rw [u1]; exact b6) (by rw [u1]; exact b2) hq
  rw [u1] at q1 q2
  have kI : ∀ x, ¬ scr x → S (x - 2) ≠ (14, 0) → I' x = I x := fun x z1 z2 => by
    rw [q3 x (by unfold scr at z1; show x ≠ 182; omega) (by unfold scr at z1; show x ≠ 183; omega) (by unfold scr at z1; omega) (by unfold scr at z1; omega) (by unfold scr at z1; omega) (by unfold scr at z1; omega) (by unfold scr at z1; omega) z2, up1_ne _ _ (by unfold scr at z1; show x ≠ 182; omega)]
  refine ⟨p, g1, I', R', e3, e4, ?_, q2, e6, e7, e8, ?_, kI⟩
  · unfold F_X11_foresee
    rw [gr_128_7 hs, Option.bind_some, gr_128_5 hs, Option.bind_some, bd_v (bds_t hs), e5, Option.bind_some, gr_128_7 e6, Option.bind_some, bd_v e7, q1, b2_some]
  · have e2' : CPlan w.1 S R' I p := e2.keepR (fun x z => by rw [e3, up2_ne _ _ _ z])
    exact e2'.keep hw (fun x z z2 => kI x (by unfold pa at z; unfold scr; omega) z2)
end CFo
