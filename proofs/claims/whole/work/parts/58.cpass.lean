/-! the class: minutes go by -/
def ovL (e : Int32) : Nat → Nat → (Nat → Int32) → Nat → Int32
  | 0, _, f => f
  | r + 1, c, f => ovL e r (c + 1) (if f (15 + 7 * c) = 1 ∧ ¬ e ≤ f (13 + 7 * c) + f (14 + 7 * c) then up1 f (15 + 7 * c) 2 else f)
theorem ov1_ne {e : Int32} {f : Nat → Int32} {c j : Nat} (h : j ≠ 15 + 7 * c) : (if f (15 + 7 * c) = 1 ∧ ¬ e ≤ f (13 + 7 * c) + f (14 + 7 * c) then up1 f (15 + 7 * c) 2 else f) j = f j := by
  split
  · rw [up1_ne _ _ h]
  · rfl
theorem ovL_ne {e : Int32} : ∀ (r c : Nat) (f : Nat → Int32) (j : Nat), (∀ d, c ≤ d → d < c + r → j ≠ 15 + 7 * d) → ovL e r c f j = f j
  | 0, _, _, _, _ => rfl
  | r + 1, c, f, j, h => by
    show ovL e r (c + 1) _ j = f j
    rw [ovL_ne r (c + 1) _ j (fun d h1 h2 => h d (by omega) (by omega)), ov1_ne (h c (Nat.le_refl _) (by omega))]
theorem ovL_st {e : Int32} : ∀ (r c : Nat) (f : Nat → Int32) (d : Nat), c ≤ d → d < c + r → ovL e r c f (15 + 7 * d) = if f (15 + 7 * d) = 1 ∧ ¬ e ≤ f (13 + 7 * d) + f (14 + 7 * d) then 2 else f (15 + 7 * d)
  | 0, c, f, d, h1, h2 => by omega
  | r + 1, c, f, d, h1, h2 => by
    show ovL e r (c + 1) _ (15 + 7 * d) = _
    by_cases hd : d = c
    · subst hd
      rw [ovL_ne r (d + 1) _ _ (fun x _ _ => by omega)]
      split
      · rw [up1_self]
      · rfl
    · rw [ovL_st r (c + 1) _ d (by omega) (by omega), ov1_ne (by omega), ov1_ne (by omega), ov1_ne (by omega)]
theorem ovL_ovr {e : Int32} {C : Nat} (g : Nat → Int32) : ovL e C 0 g = ovr C e g := by
  funext j
  rcases st_or C j with ⟨d, hd, rfl⟩ | h
  · rw [ovL_st C 0 g d (by omega) (by omega), ovr_st hd]
  · rw [ovL_ne C 0 g j (fun d _ hd => h d (by omega)), ovr_ne h]
section CPa
variable {S : mkS} {L : mkL} {R : mkR} {n : Nat × Nat} {b ca co o lf cf lg cg p : Nat} {P : PL}
theorem c_overL (hb : BdS S R b ca co) {C : Nat} (hC : C ≤ 10) (E x : Int32) : ∀ (r g c : Nat) (I : mkI), c + r = C → r < g → I ca 1 = nI C → ∃ I', F_X0_pass_75 g (some b) E x (nI c) (mk S I L R n) = some (x, mk S I' L R n) ∧ I' ca = up1 (ovL E r c (I ca)) 0 E ∧ ∀ y, y ≠ ca → I' y = I y := by
  intro r
  induction r with
  | zero =>
    intro g c I hc hg h1
    obtain ⟨g, rfl⟩ : ∃ z, g = z + 1 := ⟨g - 1, by omega⟩
    refine ⟨up2 I ca 0 E, ?_, by rw [up2_row]; rfl, fun y hy => up2_ne _ _ _ hy⟩
    have s0 : sI (mk S I L R n) (some ca) 0 (0 : Int32) E = some (mk S (up2 I ca 0 E) L R n) := bd_s (k := 0) hb (by decide)
    simp only [F_X0_pass_75]
    rw [bd_v hb, c_calls hb, b2_some, h1, if_pos (nI_le (by omega) (by omega)), bd_g hb, Option.bind_some, s0, Option.bind_some]
  | succ r ih =>
    intro g c I hc hg h1
    obtain ⟨g, rfl⟩ : ∃ z, g = z + 1 := ⟨g - 1, by omega⟩
    have hcC : c < C := by omega
    have s4 : F_X0_setFact (some b) (nI c) (4 : Int32) (2 : Int32) (mk S I L R n) = some (mk S (up2 I ca (15 + 7 * c) 2) L R n) := by
      have := c_setFact (n := n) (L := L) (w := 4) hb hC h1 hcC (by decide) 2
      rw [show 11 + 7 * c + 4 = 15 + 7 * c by omega] at this; exact this
    simp only [F_X0_pass_75, F_X0_pass_111]
    rw [bd_v hb, c_calls hb, b2_some, h1, if_neg (nI_ge (by omega) (by omega)), bd_v hb, c_isOn hb hC h1 hcC, b2_some]
    show ∃ I' : mkI, _ ∧ I' ca = up1 (ovL E r (c + 1) (if I ca (15 + 7 * c) = 1 ∧ ¬ E ≤ I ca (13 + 7 * c) + I ca (14 + 7 * c) then up1 (I ca) (15 + 7 * c) 2 else I ca)) 0 E ∧ _
    by_cases t1 : I ca (15 + 7 * c) = 1
    · rw [decide_eq_true t1, if_neg (by decide), bd_v hb, c_endOf hb hC h1 hcC, b2_some]
      by_cases t2 : E ≤ I ca (13 + 7 * c) + I ca (14 + 7 * c)
      · rw [if_pos t2, if_neg (fun q => q.2 t2), nI_1]
        exact ih g (c + 1) I (by omega) (by omega) h1
      · rw [if_neg t2, if_pos ⟨t1, t2⟩, bd_v hb, s4, Option.bind_some, nI_1]
        obtain ⟨I', q1, q2, q3⟩ := ih g (c + 1) (up2 I ca (15 + 7 * c) 2) (by omega) (by omega) (by rw [up2_row, up1_ne _ _ (by omega)]; exact h1)
        exact ⟨I', q1, by rw [q2, up2_row], fun y hy => by rw [q3 y hy, up2_ne _ _ _ hy]⟩
    · rw [decide_eq_false t1, if_pos (by decide), if_neg (fun q => t1 q.1), nI_1]
      exact ih g (c + 1) I (by omega) (by omega) h1
set_option maxHeartbeats 4000000 in
theorem c_passL (hP : PlOK P) (hw : LW S) (hb : BdS S R b ca co) (hk : CoS S R co o lf cf lg cg) (hn : NPa ca co o lf cf lg cg) (hpl : R b 2 = some p) {C E N : Nat} {F T A D : Nat → Nat} (hE : E ≤ 300000) (hN : N ≤ 10) : ∀ (suf : List Nat) (g i y : Nat) (I : mkI) (t0 : Nat), i + suf.length = N → suf.length < g → (∀ j, j < suf.length → I o (i + j) = nI (suf.getD j 0)) → I co 1 = nI N → BV P C (I ca) F T A D → CoR (pW P) (pC P) C (I ca) t0 (I lf) (I cf) → (∀ d ∈ suf, d < C ∧ I ca (15 + 7 * d) = 0 ∧ t0 ≤ A d) → suf.Nodup → suf.Pairwise (fun a b => A a ≤ A b) → CPlan P S R I p →
    ∃ I', F_X0_pass_20 g (some b) (nI E) (nI y) (nI i) (mk S I L R n) = F_X0_pass_75 mm_N (some b) (nI E) (nI (y + (gLost P frc0 C (suf.filter (fun d => decide (A d < E))) (I ca)).length)) 0 (mk S I' L R n) ∧ I' ca = gRun P frc0 C (suf.filter (fun d => decide (A d < E))) (I ca) ∧ ∀ x, x ≠ ca → x ≠ lf → x ≠ cf → S (x - 2) ≠ (14, 0) → I' x = I x := by
  have dak : ca ≠ co := sh_ne hb.2.2.2.1 hk.1.1 (by decide)
  have dao : ca ≠ o := sh_ne hb.2.2.2.1 hk.2.2.1.1 (by decide)
  have dlo : lf ≠ o := sh_ne hk.2.2.1.2.1 hk.2.2.1.1 (by decide)
  have dco : cf ≠ o := sh_ne hk.2.2.1.2.2.1 hk.2.2.1.1 (by decide)
  have dlk : lf ≠ co := sh_ne hk.2.2.1.2.1 hk.1.1 (by decide)
  have dck : cf ≠ co := sh_ne hk.2.2.1.2.2.1 hk.1.1 (by decide)
  have nco : S (co - 2) ≠ (14, 0) := hw.nst (by have := hk.1.2; omega) (by rw [hk.1.1]; decide)
  have no : S (o - 2) ≠ (14, 0) := hw.nst (by have := hk.2.2.2.1.1; omega) (by rw [hk.2.2.1.1]; decide)
  intro suf
  induction suf with
  | nil =>
    intro g i y I t0 hi hg hr hm hV hR hs hnd hpw hp
    obtain ⟨g, rfl⟩ : ∃ z, g = z + 1 := ⟨g - 1, by omega⟩
    have : i = N := by simpa using hi
    subst this
    refine ⟨I, ?_, rfl, fun _ _ _ _ _ => rfl⟩
    simp only [F_X0_pass_20, F_X1_many]
    rw [bd_c hb, Option.bind_some, cq_v hk, cq_1 hk, Option.bind_some, b2_some, hm, if_pos (nI_le (by omega) (by omega))]
    rfl
  | cons c cs ih =>
    intro g i y I t0 hi hg hr hm hV hR hs hnd hpw hp
    obtain ⟨g, rfl⟩ : ∃ z, g = z + 1 := ⟨g - 1, by omega⟩
    have hi' : i + (cs.length + 1) = N := hi
    have hC := hV.1
    obtain ⟨hc, h0, ht⟩ := hs c List.mem_cons_self
    obtain ⟨-, -, -, ⟨e3, hA⟩, -, -, -⟩ := hV.2.2 c hc
    have r0 : I o i = nI c := by have := hr 0 (by simp); simpa using this
    rw [List.nodup_cons] at hnd
    rw [List.pairwise_cons] at hpw
    have fA : F_X0_fact (some b) (nI c) (2 : Int32) (mk S I L R n) = some (nI (A c), mk S I L R n) := by
      have := c_fact (n := n) (L := L) (w := 2) hb hC hV.2.1 hc (by decide)
      rw [show 11 + 7 * c + 2 = 13 + 7 * c by omega, e3] at this; exact this
    have fcall : F_X1_callAt (some co) (nI i) (mk S I L R n) = some (nI c, mk S I L R n) := by
      unfold F_X1_callAt F_X1_callAt_28
      rw [if_neg (nI_pos (by omega)), cq_1 hk, Option.bind_some, hm, if_neg (nI_ge (by omega) (by omega)), if_neg (show ¬ (10 : Int32) ≤ nI i from nI_ge (b := 10) (by omega) (by omega)), cq_0 hk, Option.bind_some, cq_ao hk (by omega), r0, Option.bind_some]
    simp only [F_X0_pass_20, F_X1_many, F_X0_pass_66]
    rw [bd_c hb, Option.bind_some, cq_v hk, cq_1 hk, Option.bind_some, b2_some, hm, if_neg (nI_ge (by omega) (by omega)), bd_c hb, Option.bind_some, cq_v hk, fcall, b2_some, bd_v hb, fA, b2_some]
    by_cases hlt : A c < E
    · rw [if_neg (nI_ge hlt (by omega)), bd_v hb]
      have ef : (c :: cs).filter (fun d => decide (A d < E)) = c :: cs.filter (fun d => decide (A d < E)) := by rw [List.filter_cons, if_pos (by simpa using hlt)]
      rw [ef]
      obtain ⟨e, he, hcm⟩ := cameT_lt hP hV frc0_ok hc
      obtain ⟨I1, x1, x2, x3, x4, x5⟩ := c_begins (L := L) (n := n) hP hw hb hk hn hpl hp hV hc he hcm hR ht
      have hV1 : BV P C (I1 ca) F T A D := by rw [x2]; exact hV.step hP frc0_ok hc
      have hR1 : CoR (pW P) (pC P) C (I1 ca) (A c) (I1 lf) (I1 cf) := by rw [x2, x3, x4]; exact CoR.step hP hV frc0_ok hc h0 hR ht he hcm
      have hp1 : CPlan P S R I1 p := hp.keep hw (fun x q1 q2 => x5 x (fun q => hn.1 (q ▸ q1)) (fun q => hn.2.2.2.1 (q ▸ q1)) (fun q => hn.2.2.2.2.1 (q ▸ q1)) q2)
      have s1 : ∀ d ∈ cs, d < C ∧ I1 ca (15 + 7 * d) = 0 ∧ A c ≤ A d := fun d hd => by
        obtain ⟨z1, z2, z3⟩ := hs d (List.mem_cons_of_mem _ hd)
        have z4 : d ≠ c := fun q => hnd.1 (q ▸ hd)
        exact ⟨z1, by rw [x2, gStep_other hP hV frc0_ok hc (by omega) (by omega) (by omega) (by omega)]; exact z2, hpw.1 d hd⟩
      have rr : ∀ j, j < cs.length → I1 o (i + 1 + j) = nI (cs.getD j 0) := fun j hj => by
        rw [x5 o dao.symm dlo.symm dco.symm no]
        have := hr (j + 1) (by simp; omega)
        rw [show i + 1 + j = i + (j + 1) by omega, this]
        simp
      have hm1 : I1 co 1 = nI N := by rw [x5 co dak.symm dlk.symm dck.symm nco]; exact hm
      rw [x1, b2_some]
      by_cases hg9 : gCord P frc0 C (I ca) c = -1
      · rw [decide_eq_false (fun q => q hg9), if_pos (by decide), nI_1, nI_1]
        obtain ⟨I', q1, q2, q3⟩ := ih g (i + 1) (y + 1) I1 (A c) (by omega) (by simp at hg; omega) rr hm1 hV1 hR1 s1 hnd.2 hpw.2 hp1
        refine ⟨I', ?_, by rw [q2, x2]; rfl, fun x z1 z2 z3 z4 => by rw [q3 x z1 z2 z3 z4, x5 x z1 z2 z3 z4]⟩
        rw [q1, x2]
        have : (gLost P frc0 C (c :: cs.filter (fun d => decide (A d < E))) (I ca)).length = (gLost P frc0 C (cs.filter (fun d => decide (A d < E))) (gStep P frc0 C (I ca) c)).length + 1 := by
          simp only [gLost]; rw [if_pos hg9]; rfl
        rw [this, show ∀ k, y + 1 + k = y + (k + 1) from fun k => by omega]
      · rw [decide_eq_true hg9, if_neg (by decide), nI_1]
        obtain ⟨I', q1, q2, q3⟩ := ih g (i + 1) y I1 (A c) (by omega) (by simp at hg; omega) rr hm1 hV1 hR1 s1 hnd.2 hpw.2 hp1
        refine ⟨I', ?_, by rw [q2, x2]; rfl, fun x z1 z2 z3 z4 => by rw [q3 x z1 z2 z3 z4, x5 x z1 z2 z3 z4]⟩
        rw [q1, x2]
        have : (gLost P frc0 C (c :: cs.filter (fun d => decide (A d < E))) (I ca)).length = (gLost P frc0 C (cs.filter (fun d => decide (A d < E))) (gStep P frc0 C (I ca) c)).length := by
          simp only [gLost]; rw [if_neg hg9]
        rw [this]
    · rw [if_pos (nI_le (by omega) (by omega)), nI_1]
      have ef : (c :: cs).filter (fun d => decide (A d < E)) = cs.filter (fun d => decide (A d < E)) := by rw [List.filter_cons, if_neg (by simpa using hlt)]
      rw [ef]
      exact ih g (i + 1) y I t0 (by omega) (by simp at hg; omega) (fun j hj => by
        have := hr (j + 1) (by simp; omega)
        rw [show i + 1 + j = i + (j + 1) by omega, this]
        simp) hm hV hR (fun d hd => hs d (List.mem_cons_of_mem _ hd)) hnd.2 hpw.2 hp
theorem evL_sorted {q : Nat → Bool} : ∀ (r c : Nat), (evL q r c).Pairwise (fun a b => a < b)
  | 0, _ => List.Pairwise.nil
  | r + 1, c => by
    simp only [evL]
    split
    · exact List.pairwise_cons.mpr ⟨fun d hd => by have := (evL_mem r (c + 1) d).mp hd; omega, evL_sorted r (c + 1)⟩
    · exact evL_sorted r (c + 1)
theorem insR_nodup {A : Nat → Nat} {c : Nat} : ∀ (l : List Nat), c ∉ l → l.Nodup → (insR A c l).Nodup
  | [], _, _ => by simp [insR]
  | x :: xs, h, hn => by
    simp only [insR]
    split
    · exact List.nodup_cons.mpr ⟨h, hn⟩
    · rw [List.nodup_cons] at hn
      refine List.nodup_cons.mpr ⟨fun q => ?_, insR_nodup xs (fun q => h (List.mem_cons_of_mem _ q)) hn.2⟩
      rcases (insR_mem xs).mp q with e | e
      · exact h (by rw [e]; exact List.mem_cons_self)
      · exact hn.1 e
theorem ordR_nodup {q : Nat → Bool} {A : Nat → Nat} : ∀ (r c : Nat) (l : List Nat), (∀ d ∈ l, d < c) → l.Nodup → (ordR q A r c l).Nodup
  | 0, _, _, _, h => h
  | r + 1, c, l, hl, h => by
    refine ordR_nodup r (c + 1) _ (fun d hd => ?_) ?_
    · split at hd
      · rcases (insR_mem l).mp hd with e | e
        · omega
        · have := hl d e; omega
      · have := hl d hd; omega
    · split
      · exact insR_nodup l (fun q => by have := hl c q; omega) h
      · exact h
theorem ordF_ok {q : Nat → Bool} {A : Nat → Nat} {C : Nat} : (ordF q A C).Nodup ∧ (ordF q A C).Pairwise (fun a b => A a ≤ A b) ∧ (ordF q A C).length ≤ C ∧ ∀ d, d ∈ ordF q A C ↔ d < C ∧ q d = true := by
  unfold ordF
  refine ⟨List.pairwise_reverse.mpr (List.Pairwise.imp (fun h q => h q.symm) (ordR_nodup C 0 [] (fun d hd => nomatch hd) List.nodup_nil)), List.pairwise_reverse.mpr (ordR_pw C 0 [] List.Pairwise.nil), by rw [List.length_reverse]; have := ordR_len (q := q) (A := A) C 0 []; simpa using this, fun d => ?_⟩
  rw [List.mem_reverse, ordR_mem]
  simp
/-- the class: so many minutes -/
theorem c_pass (hP : PlOK P) (hw : LW S) (hb : BdS S R b ca co) (hk : CoS S R co o lf cf lg cg) (hn : NPa ca co o lf cf lg cg) (hpl : R b 2 = some p) {I : mkI} (hp : CPlan P S R I p) {C M : Nat} {F T A D : Nat → Nat} (hV : BV P C (I ca) F T A D) (hO : OnOK P C (I ca)) (hM : ∀ d, d < C → I ca (15 + 7 * d) = 1 → M ≤ A d + D d) (hM2 : ∀ d, d < C → I ca (15 + 7 * d) = 0 → M ≤ A d) (hD : Dj C (I ca) A D M) (h0 : I ca 0 = nI M) {k : Nat} (hk9 : M + k ≤ 300000) :
    ∃ I', F_X0_pass (some b) (nI k) (mk S I L R n) = some (nI (gLost P frc0 C (evU (I ca) A C M k) (I ca)).length, mk S I' L R n) ∧ I' ca = fin_ C (M + k) (gRun P frc0 C (evU (I ca) A C M k) (I ca)) ∧ ∀ x, x ≠ ca → x ≠ co → x ≠ o → x ≠ lf → x ≠ cf → x ≠ lg → x ≠ cg → S (x - 2) ≠ (14, 0) → I' x = I x := by
  have hC := hV.1
  have dak : ca ≠ co := sh_ne hb.2.2.2.1 hk.1.1 (by decide)
  have dao : ca ≠ o := sh_ne hb.2.2.2.1 hk.2.2.1.1 (by decide)
  have dal : ca ≠ lf := sh_ne hb.2.2.2.1 hk.2.2.1.2.1 (by decide)
  have dac : ca ≠ cf := sh_ne hb.2.2.2.1 hk.2.2.1.2.2.1 (by decide)
  have dag : ca ≠ lg := sh_ne hb.2.2.2.1 hk.2.2.1.2.2.2.1 (by decide)
  have dah : ca ≠ cg := sh_ne hb.2.2.2.1 hk.2.2.1.2.2.2.2 (by decide)
  obtain ⟨I1, s1, ⟨s2, s2'⟩, s3, -, -, s4⟩ := c_start (L := L) (n := n) hP hw hb hk hn hpl hp hV hO hM hD
  have eca : I1 ca = I ca := s4 ca dak dao dal dac dag dah
  obtain ⟨o1, o2, o3, o4⟩ := ordF_ok (q := fun d => decide (I ca (15 + 7 * d) = 0)) (A := A) (C := C)
  have hp1 : CPlan P S R I1 p := hp.keep hw (fun x z _ => s4 x (fun q => hn.2.1 (q ▸ z)) (fun q => hn.2.2.1 (q ▸ z)) (fun q => hn.2.2.2.1 (q ▸ z)) (fun q => hn.2.2.2.2.1 (q ▸ z)) (fun q => hn.2.2.2.2.2.1 (q ▸ z)) (fun q => hn.2.2.2.2.2.2 (q ▸ z)))
  obtain ⟨I2, p1, p2, p3⟩ := c_passL (L := L) (n := n) (E := M + k) (N := (ordF (fun d => decide (I ca (15 + 7 * d) = 0)) A C).length) hP hw hb hk hn hpl (by omega) (by omega) (ordF (fun d => decide (I ca (15 + 7 * d) = 0)) A C) mm_N 0 0 I1 M (by omega) (by show _ < 1000000; omega) (fun j hj => by rw [Nat.zero_add]; exact s2' j hj) s2 (by rw [eca]; exact hV) (by rw [eca]; exact s3) (fun d hd => by
    have z := (o4 d).mp hd
    have z2 : I ca (15 + 7 * d) = 0 := by simpa using z.2
    exact ⟨z.1, by rw [eca]; exact z2, hM2 d z.1 z2⟩) o1 o2 hp1
  rw [eca, ord_evU hM2 k, Nat.zero_add] at p1
  rw [eca, ord_evU hM2 k] at p2
  have hl : ∀ c ∈ evU (I ca) A C M k, c < C := fun c hc => (evU_mem.mp hc).1
  have g1 : I2 ca 1 = nI C := by rw [p2]; exact (BV.run hP frc0_ok _ _ hV hl).2.1
  obtain ⟨I3, r1, r2, r3⟩ := c_overL (L := L) (n := n) hb hC (nI (M + k)) (nI (gLost P frc0 C (evU (I ca) A C M k) (I ca)).length) C mm_N 0 I2 (by omega) (by show C < 1000000; omega) g1
  refine ⟨I3, ?_, ?_, fun x z1 z2 z3 z4 z5 z6 z7 z8 => by rw [r3 x z1, p3 x z1 z4 z5 z8, s4 x z2 z3 z4 z5 z6 z7]⟩
  · unfold F_X0_pass
    rw [bd_v hb, c_minute hb, b2_some, h0, bd_c hb, Option.bind_some, cq_v hk, s1, Option.bind_some, nI_add]
    exact p1.trans r1
  · rw [r2, p2, ovL_ovr]; rfl
end CPa
