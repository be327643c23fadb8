/-! a course begun from a board that is not its own -/
section CSt2
variable {S : mkS} {L : mkL} {R : mkR} {n : Nat × Nat} {b ca cob co o lf cf lg cg p : Nat} {P : PL}
theorem c_putL2 (hb : BdS S R b ca cob) (hk : CoS S R co o lf cf lg cg) {C c : Nat} {A : Nat → Nat} (hC : C ≤ 10) (hc : c < C) : ∀ (l : List Nat) (g : Nat) (I : mkI), l.length < g → l.length < 10 → I ca 1 = nI C → (∀ d, d < C → I ca (13 + 7 * d) = nI (A d) ∧ A d ≤ 200000) → (∀ d ∈ l, d < C) → (∀ i, i < l.length → I o i = nI (l.reverse.getD i 0)) → ∃ r', F_X1_putInOrder_22 g (some co) (some b) (nI c) (nI l.length) (mk S I L R n) = some (mk S (up2 (up1 I o r') co 1 (I co 1 + 1)) L R n) ∧ (∀ i, i ≤ l.length → r' i = nI ((insR A c l).reverse.getD i 0)) ∧ ∀ i, l.length < i → r' i = I o i := by
  have doc : co ≠ o := sh_ne hk.1.1 hk.2.2.1.1 (by decide)
  have dao : ca ≠ o := sh_ne hb.2.2.2.1 hk.2.2.1.1 (by decide)
  have last : ∀ (I : mkI) (k : Nat), k < 10 → F_X1_putInOrder_68 (some co) (nI c) (nI k) (mk S I L R n) = some (mk S (up2 (up1 I o (up1 (I o) k (nI c))) co 1 (I co 1 + 1)) L R n) := by
    intro I k hk9
    unfold F_X1_putInOrder_68
    rw [cq_0 hk, Option.bind_some, cq_so hk hk9, Option.bind_some, cq_1 hk, Option.bind_some, cq_p1 hk, Option.bind_some, up2_eq1 I o k, up1_ne _ _ doc]
  intro l
  induction l with
  | nil =>
    intro g I hg hl h1 hA hd hr
    obtain ⟨g, rfl⟩ : ∃ z, g = z + 1 := ⟨g - 1, by omega⟩
    refine ⟨up1 (I o) 0 (nI c), ?_, fun i hi => ?_, fun i hi => ?_⟩
    · show F_X1_putInOrder_22 (g + 1) (some co) (some b) (nI c) (nI 0) _ = _
      simp only [F_X1_putInOrder_22]
      rw [if_pos (show nI 0 ≤ 0 from nI_le (b := 0) (by omega) (by omega)), last I 0 (by omega)]
    · have : i = 0 := by simpa using hi
      subst this; rw [up1_self]; rfl
    · have : 0 < i := by simpa using hi
      rw [up1_ne _ _ (by omega)]
  | cons x xs ih =>
    intro g I hg hl h1 hA hd hr
    obtain ⟨g, rfl⟩ : ∃ z, g = z + 1 := ⟨g - 1, by omega⟩
    have hl' : xs.length + 1 < 10 := by simpa using hl
    have hx := hd x List.mem_cons_self
    have ox : I o xs.length = nI x := by rw [hr xs.length (by simp), rev_last]
    have fk : ∀ d, d < C → F_X0_fact (some b) (nI d) (2 : Int32) (mk S I L R n) = some (nI (A d), mk S I L R n) := fun d hd => by
      have := c_fact (n := n) (L := L) (w := 2) hb hC h1 hd (by decide)
      rw [show 11 + 7 * d + 2 = 13 + 7 * d by omega, (hA d hd).1] at this
      exact this
    have aX := (hA x hx).2
    have aC := (hA c hc).2
    show ∃ r', F_X1_putInOrder_22 (g + 1) (some co) (some b) (nI c) (nI (xs.length + 1)) _ = _ ∧ _
    simp only [F_X1_putInOrder_22]
    rw [if_neg (nI_nle (by omega) (by omega)), cq_0 hk, Option.bind_some, nI_sub1 (by omega), Nat.add_sub_cancel, cq_ao hk (by omega), ox, Option.bind_some, bd_v hb, fk x hx, b2_some, bd_v hb, fk c hc, b2_some]
    by_cases h : A x ≤ A c
    · rw [if_pos (nI_le h (by omega)), last I (xs.length + 1) hl']
      refine ⟨up1 (I o) (xs.length + 1) (nI c), rfl, fun i hi => ?_, fun i hi => ?_⟩
      · have e : insR A c (x :: xs) = c :: x :: xs := by simp only [insR]; rw [if_pos h]
        have hi' : i ≤ xs.length + 1 := hi
        rw [e]
        by_cases hi2 : i = xs.length + 1
        · subst hi2; rw [up1_self, show xs.length + 1 = (x :: xs).length from rfl, rev_last]
        · rw [up1_ne _ _ hi2, rev_init c (x :: xs) (by show i < xs.length + 1; omega), hr i (by show i < xs.length + 1; omega)]
      · have hi' : xs.length + 1 < i := hi
        rw [up1_ne _ _ (by omega)]
    · rw [if_neg (nI_ge (by omega) (by omega)), cq_0 hk, Option.bind_some, Option.bind_some, cq_ao hk (by omega), Option.bind_some, ox, cq_so hk hl', Option.bind_some, nI_m1 (by omega), Nat.add_sub_cancel]
      obtain ⟨r', e1, e2, e3⟩ := ih g (up2 I o (xs.length + 1) (nI x)) (by simp at hg; omega) (by omega) (by rw [up2_ne _ _ _ dao]; exact h1) (fun d hd => by rw [up2_ne _ _ _ dao]; exact hA d hd) (fun d hd9 => hd d (List.mem_cons_of_mem _ hd9)) (fun i hi => by rw [up2_row, up1_ne _ _ (by omega), hr i (by simp; omega), rev_init x xs hi])
      refine ⟨r', ?_, fun i hi => ?_, fun i hi => ?_⟩
      · rw [e1, up2_ne _ _ _ doc]
        refine congrArg (fun q => some (mk S (up2 q co 1 (I co 1 + 1)) L R n)) (funext fun b9 => ?_)
        by_cases hb9 : b9 = o
        · subst hb9; rw [up1_self, up1_self]
        · rw [up1_ne _ _ hb9, up1_ne _ _ hb9, up2_ne _ _ _ hb9]
      · have hi' : i ≤ xs.length + 1 := hi
        have e : insR A c (x :: xs) = x :: insR A c xs := by simp only [insR]; rw [if_neg h]
        rw [e]
        by_cases hi2 : i = xs.length + 1
        · subst hi2
          rw [e3 _ (by omega), up2_self, show xs.length + 1 = (insR A c xs).length from (insR_len xs).symm, rev_last]
        · rw [e2 i (by omega), rev_init x (insR A c xs) (by rw [insR_len]; omega)]
      · have hi' : xs.length + 1 < i := hi
        rw [e3 i (by omega), up2_row, up1_ne _ _ (by omega)]
set_option maxHeartbeats 4000000 in
theorem c_startL2 (hP : PlOK P) (hb : BdS S R b ca cob) (hk : CoS S R co o lf cf lg cg) {C : Nat} {f : Nat → Int32} {F T A D : Nat → Nat} (hV : BV P C f F T A D) (hO : OnOK P C f) : ∀ (r g c : Nat) (I : mkI) (l : List Nat), c + r = C → r < g → I ca = f → l.length ≤ c → (∀ d ∈ l, d < C) → I co 1 = nI l.length → (∀ i, i < l.length → I o i = nI (l.reverse.getD i 0)) → HLi (pW P) f A D c (I lf) → HCo (pC P) f A D c (I cf) →
    ∃ I', F_X1_start_23 g (some co) (some b) (nI c) (mk S I L R n) = F_X1_start_92 mm_N (some co) (some b) 0 (mk S I' L R n) ∧ (I' co 1 = nI (ordR (fun d => decide (f (15 + 7 * d) = 0)) A r c l).length ∧ ∀ i, i < (ordR (fun d => decide (f (15 + 7 * d) = 0)) A r c l).length → I' o i = nI ((ordR (fun d => decide (f (15 + 7 * d) = 0)) A r c l).reverse.getD i 0)) ∧ HLi (pW P) f A D C (I' lf) ∧ HCo (pC P) f A D C (I' cf) ∧ ∀ x, x ≠ co → x ≠ o → x ≠ lf → x ≠ cf → I' x = I x := by
  have w2 := hP.2.1
  have w3 := hP.2.2.1
  obtain ⟨hC, h1, hv⟩ := id hV
  have doc : co ≠ o := sh_ne hk.1.1 hk.2.2.1.1 (by decide)
  have dlc : lf ≠ cf := sh_ne hk.2.2.1.2.1 hk.2.2.1.2.2.1 (by decide)
  have dlo : lf ≠ o := sh_ne hk.2.2.1.2.1 hk.2.2.1.1 (by decide)
  have dco : cf ≠ o := sh_ne hk.2.2.1.2.2.1 hk.2.2.1.1 (by decide)
  have dlk : lf ≠ co := sh_ne hk.2.2.1.2.1 hk.1.1 (by decide)
  have dck : cf ≠ co := sh_ne hk.2.2.1.2.2.1 hk.1.1 (by decide)
  have dal : ca ≠ lf := sh_ne hb.2.2.2.1 hk.2.2.1.2.1 (by decide)
  have dac : ca ≠ cf := sh_ne hb.2.2.2.1 hk.2.2.1.2.2.1 (by decide)
  have dao : ca ≠ o := sh_ne hb.2.2.2.1 hk.2.2.1.1 (by decide)
  have dak : ca ≠ co := sh_ne hb.2.2.2.1 hk.1.1 (by decide)
  intro r
  induction r with
  | zero =>
    intro g c I l hc hg hf hl hd h2 hr hX hY
    obtain ⟨g, rfl⟩ : ∃ z, g = z + 1 := ⟨g - 1, by omega⟩
    have : c = C := by omega
    subst this
    refine ⟨I, ?_, ⟨h2, hr⟩, hX, hY, fun _ _ _ _ _ => rfl⟩
    simp only [F_X1_start_23]
    rw [bd_v hb, c_calls hb, b2_some, hf, h1, if_pos (nI_le (by omega) (by omega))]
  | succ r ih =>
    intro g c I l hc hg hf hl hd h2 hr hX hY
    obtain ⟨g, rfl⟩ : ∃ z, g = z + 1 := ⟨g - 1, by omega⟩
    have hcC : c < C := by omega
    have h1' : I ca 1 = nI C := by rw [hf]; exact h1
    obtain ⟨⟨e1, ha⟩, -, -, ⟨e3, hA⟩, e4, -, -⟩ := hv c hcC
    simp only [F_X1_start_23, F_X1_start_84]
    rw [bd_v hb, c_calls hb, b2_some, h1', if_neg (nI_ge (by omega) (by omega)), bd_v hb, c_isToCome hb hC h1' hcC, b2_some, hf]
    show ∃ I' : mkI, _ ∧ (I' co 1 = nI (ordR (fun d => decide (f (15 + 7 * d) = 0)) A r (c + 1) (if (decide (f (15 + 7 * c) = 0)) = true then insR A c l else l)).length ∧ ∀ i, i < (ordR (fun d => decide (f (15 + 7 * d) = 0)) A r (c + 1) (if (decide (f (15 + 7 * c) = 0)) = true then insR A c l else l)).length → I' o i = nI ((ordR (fun d => decide (f (15 + 7 * d) = 0)) A r (c + 1) (if (decide (f (15 + 7 * c) = 0)) = true then insR A c l else l)).reverse.getD i 0)) ∧ _
    by_cases t : f (15 + 7 * c) = 0
    · have tn : ¬ f (15 + 7 * c) = 1 := by rw [t]; decide
      rw [decide_eq_true t, if_neg (by decide), if_pos rfl, cq_v hk]
      obtain ⟨r', p1, p2, p3⟩ := c_putL2 (L := L) (n := n) hb hk hC hcC l mm_N I (by show l.length < 1000000; omega) (by omega) h1' (fun d hd => by rw [hf]; exact ⟨(hv d hd).2.2.2.1.1, (hv d hd).2.2.2.1.2⟩) hd hr
      have ep : F_X1_putInOrder (some co) (some b) (nI c) (mk S I L R n) = some (mk S (up2 (up1 I o r') co 1 (I co 1 + 1)) L R n) := by
        unfold F_X1_putInOrder
        rw [cq_1 hk, Option.bind_some, h2, if_neg (nI_pos (by omega)), Option.bind_some, if_pos (show nI l.length < (10 : Int32) from nI_lt (b := 10) (by omega) (by omega)), Option.bind_some, p1, h2]
      rw [ep, Option.bind_some, nI_1]
      obtain ⟨I', q1, q2, q3, q4, q5⟩ := ih g (c + 1) (up2 (up1 I o r') co 1 (I co 1 + 1)) (insR A c l) (by omega) (by omega) (by rw [up2_ne _ _ _ dak, up1_ne _ _ dao]; exact hf) (by rw [insR_len]; omega) (fun d hd9 => by
          rcases (insR_mem l).mp hd9 with rfl | h9
          · exact hcC
          · exact hd d h9) (by rw [up2_self, h2, nI_1, insR_len]) (fun i hi => by
          rw [insR_len] at hi
          rw [up2_ne _ _ _ doc.symm, up1_self, p2 i (by omega)]) (by rw [up2_ne _ _ _ dlk, up1_ne _ _ dlo]; exact hX.no tn) (by rw [up2_ne _ _ _ dck, up1_ne _ _ dco]; exact hY.no tn)
      exact ⟨I', q1, q2, q3, q4, fun x z1 z2 z3 z4 => by rw [q5 x z1 z2 z3 z4, up2_ne _ _ _ z1, up1_ne _ _ z2]⟩
    · rw [decide_eq_false t, if_pos (by decide), if_neg (by decide), bd_v hb, c_isOn hb hC h1' hcC, b2_some, hf]
      by_cases t1 : f (15 + 7 * c) = 1
      · rw [decide_eq_true t1, if_neg (by decide)]
        obtain ⟨⟨e, he, ee⟩, k, hk9, ek⟩ := hO c hcC t1
        have fk : ∀ (w : Nat), w < 7 → F_X0_fact (some b) (nI c) (nI w) (mk S I L R n) = some (f (11 + 7 * c + w), mk S I L R n) := fun w hw => by
          have := c_fact (n := n) (L := L) hb hC h1' hcC hw
          rw [hf] at this; exact this
        have f0 : F_X0_fact (some b) (nI c) (0 : Int32) (mk S I L R n) = some (nI (F c), mk S I L R n) := by
          have := fk 0 (by decide); rw [Nat.add_zero, e1] at this; exact this
        have f5 : F_X0_fact (some b) (nI c) (5 : Int32) (mk S I L R n) = some (nI e, mk S I L R n) := by
          have := fk 5 (by decide); rw [show 11 + 7 * c + 5 = 16 + 7 * c by omega, ee] at this; exact this
        have f6 : F_X0_fact (some b) (nI c) (6 : Int32) (mk S I L R n) = some (nI k, mk S I L R n) := by
          have := fk 6 (by decide); rw [show 11 + 7 * c + 6 = 17 + 7 * c by omega, ek] at this; exact this
        have fe : F_X0_endOf (some b) (nI c) (mk S I L R n) = some (nI (A c + D c), mk S I L R n) := by
          rw [c_endOf hb hC h1' hcC, hf, e3, e4, nI_add]
        rw [bd_v hb, f0, b2_some, bd_v hb, f5, b2_some, bd_v hb, f6, b2_some, bd_v hb, fe, b2_some, cq_v hk, c_hold hk (show F c < 8 by omega) (show e < 8 by omega) (show k < 3 by omega), Option.bind_some, nI_1]
        obtain ⟨I', q1, q2, q3, q4, q5⟩ := ih g (c + 1) (up2 (up2 (up2 I lf (F c) (nI (A c + D c))) lf e (nI (A c + D c))) cf k (nI (A c + D c))) l (by omega) (by omega) (by rw [up2_ne _ _ _ dac, up2_ne _ _ _ dal, up2_ne _ _ _ dal]; exact hf) (by omega) hd (by rw [up2_ne _ _ _ dck.symm, up2_ne _ _ _ dlk.symm, up2_ne _ _ _ dlk.symm]; exact h2) (fun i hi => by rw [up2_ne _ _ _ dco.symm, up2_ne _ _ _ dlo.symm, up2_ne _ _ _ dlo.symm]; exact hr i hi) (by rw [up2_ne _ _ _ dlc, up2_row, up2_row]; exact hX.on w2 t1 ha he e1 ee) (by rw [up2_row, up2_ne _ _ _ dlc.symm, up2_ne _ _ _ dlc.symm]; exact hY.on w3 t1 hk9 ek)
        exact ⟨I', q1, q2, q3, q4, fun x z1 z2 z3 z4 => by rw [q5 x z1 z2 z3 z4, up2_ne _ _ _ z4, up2_ne _ _ _ z3, up2_ne _ _ _ z3]⟩
      · rw [decide_eq_false t1, if_pos (by decide), nI_1]
        obtain ⟨I', q1, q2, q3, q4, q5⟩ := ih g (c + 1) I l (by omega) (by omega) hf (by omega) hd h2 hr (hX.no t1) (hY.no t1)
        exact ⟨I', q1, q2, q3, q4, q5⟩
theorem c_doorsL2 (hP : PlOK P) (hw : LW S) (hb : BdS S R b ca cob) (hk : CoS S R co o lf cf lg cg) (hn : NPa ca co o lf cf lg cg) (hpl : R b 2 = some p) : ∀ (r g l : Nat) (I : mkI), l + r = 8 → r < g → CPlan P S R I p → ∃ I', F_X1_start_92 g (some co) (some b) (nI l) (mk S I L R n) = some (mk S I' L R n) ∧ (∀ j, j < 8 → I' lf j = if l ≤ j ∧ (isL (pW P) (nI j) && hasB (I ca 2) (nI j)) = true then 1000000 else I lf j) ∧ I' cf = I cf ∧ (∀ j, j < 8 → I' lg j = I' lf j) ∧ (∀ j, j < 3 → I' cg j = I' cf j) ∧ ∀ x, x ≠ lf → x ≠ lg → x ≠ cg → I' x = I x := by
  have dlc : lf ≠ cf := sh_ne hk.2.2.1.2.1 hk.2.2.1.2.2.1 (by decide)
  have dgc : lg ≠ cf := sh_ne hk.2.2.1.2.2.2.1 hk.2.2.1.2.2.1 (by decide)
  have dlh : lf ≠ cg := sh_ne hk.2.2.1.2.1 hk.2.2.1.2.2.2.2 (by decide)
  have dgh : lg ≠ cg := sh_ne hk.2.2.1.2.2.2.1 hk.2.2.1.2.2.2.2 (by decide)
  have dll := hk.2.2.2.2.1
  have dcc := hk.2.2.2.2.2
  have dal : ca ≠ lf := sh_ne hb.2.2.2.1 hk.2.2.1.2.1 (by decide)
  intro r
  induction r with
  | zero =>
    intro g l I hl hg hp
    obtain ⟨g, rfl⟩ : ∃ z, g = z + 1 := ⟨g - 1, by omega⟩
    have c1 : cpI (mk S I L R n) (some lf) (0 : Int32) (some lg) (0 : Int32) (8 : Int32) = some (mk S (up1 I lg (va_cpy (I lf) (I lg) 0 0 8)) L R n) := mk_cpI (sp := 0) (dp := 0) (nn := 8) hk.2.2.1.2.1 hk.2.2.1.2.2.2.1 (by decide) (by decide) (by decide) (by decide) hk.2.2.2.1.2.2.2.1
    obtain ⟨I1, hI1⟩ : ∃ I1, I1 = up1 I lg (va_cpy (I lf) (I lg) 0 0 8) := ⟨_, rfl⟩
    rw [← hI1] at c1
    have c2 : cpI (mk S I1 L R n) (some cf) (0 : Int32) (some cg) (0 : Int32) (3 : Int32) = some (mk S (up1 I1 cg (va_cpy (I1 cf) (I1 cg) 0 0 3)) L R n) := mk_cpI (sp := 0) (dp := 0) (nn := 3) hk.2.2.1.2.2.1 hk.2.2.1.2.2.2.2 (by decide) (by decide) (by decide) (by decide) hk.2.2.2.1.2.2.2.2
    refine ⟨up1 I1 cg (va_cpy (I1 cf) (I1 cg) 0 0 3), ?_, fun j hj => ?_, ?_, fun j hj => ?_, fun j hj => ?_, fun x z1 z2 z3 => ?_⟩
    · simp only [F_X1_start_92]
      rw [if_pos (le_li 8 (by omega) (by omega)), cq_2 hk, Option.bind_some, cq_4 hk, Option.bind_some, c1, Option.bind_some, cq_3 hk, Option.bind_some, cq_5 hk, Option.bind_some, c2, Option.bind_some]
    · rw [if_neg (fun q => by omega), up1_ne _ _ dlh, hI1, up1_ne _ _ dll]
    · rw [up1_ne _ _ dcc, hI1, up1_ne _ _ dgc.symm]
    · rw [up1_ne _ _ dgh, up1_ne _ _ dlh, hI1, up1_self, up1_ne _ _ dll]
      show (if 0 ≤ j ∧ j < 0 + 8 then I lf (0 + (j - 0)) else _) = _
      rw [if_pos ⟨by omega, by omega⟩, Nat.zero_add, Nat.sub_zero]
    · rw [up1_self, up1_ne _ _ dcc]
      show (if 0 ≤ j ∧ j < 0 + 3 then I1 cf (0 + (j - 0)) else _) = _
      rw [if_pos ⟨by omega, by omega⟩, Nat.zero_add, Nat.sub_zero]
    · rw [up1_ne _ _ z3, hI1, up1_ne _ _ z2]
  | succ r ih =>
    intro g l I hl hg hp
    obtain ⟨g, rfl⟩ : ∃ z, g = z + 1 := ⟨g - 1, by omega⟩
    simp only [F_X1_start_92, F_X1_start_114]
    rw [if_neg (ge_li 8 (by omega) (by omega)), bd_v hb, c_isShut hP hb hpl hp, b2_some]
    cases hsh : (isL (pW P) (nI l) && hasB (I ca 2) (nI l))
    · rw [if_pos (by decide), nI_1]
      obtain ⟨I', q1, q2, q3, q4, q5, q6⟩ := ih g (l + 1) I (by omega) (by omega) hp
      refine ⟨I', q1, fun j hj => ?_, q3, q4, q5, q6⟩
      rw [q2 j hj]
      by_cases e : j = l
      · subst e; rw [if_neg (fun q => by omega), if_neg (fun q => by rw [hsh] at q; cases q.2)]
      · by_cases h9 : l + 1 ≤ j ∧ (isL (pW P) (nI j) && hasB (I ca 2) (nI j)) = true
        · rw [if_pos h9, if_pos ⟨by omega, h9.2⟩]
        · rw [if_neg h9, if_neg (fun q => h9 ⟨by omega, q.2⟩)]
    · rw [if_neg (by decide), cq_2 hk, Option.bind_some, cq_sl hk (show l < 8 by omega), Option.bind_some, nI_1]
      obtain ⟨I', q1, q2, q3, q4, q5, q6⟩ := ih g (l + 1) (up2 I lf l 1000000) (by omega) (by omega) (hp.keep hw (fun x z _ => up2_ne _ _ _ (fun q => hn.2.2.2.1 (q ▸ z))))
      refine ⟨I', q1, fun j hj => ?_, by rw [q3, up2_ne _ _ _ dlc.symm], q4, q5, fun x z1 z2 z3 => by rw [q6 x z1 z2 z3, up2_ne _ _ _ z1]⟩
      rw [q2 j hj, up2_ne _ _ _ dal, up2_row]
      by_cases e : j = l
      · subst e; rw [if_neg (fun q => by omega), if_pos ⟨Nat.le_refl _, hsh⟩, up1_self]
      · rw [up1_ne _ _ e]
        by_cases h9 : l + 1 ≤ j ∧ (isL (pW P) (nI j) && hasB (I ca 2) (nI j)) = true
        · rw [if_pos h9, if_pos ⟨by omega, h9.2⟩]
        · rw [if_neg h9, if_neg (fun q => h9 ⟨by omega, q.2⟩)]
set_option maxHeartbeats 4000000 in
theorem c_start2 (hP : PlOK P) (hw : LW S) (hb : BdS S R b ca cob) (hk : CoS S R co o lf cf lg cg) (hn : NPa ca co o lf cf lg cg) (hpl : R b 2 = some p) {I : mkI} (hp : CPlan P S R I p) {C M : Nat} {F T A D : Nat → Nat} (hV : BV P C (I ca) F T A D) (hO : OnOK P C (I ca)) (hM : ∀ d, d < C → I ca (15 + 7 * d) = 1 → M ≤ A d + D d) (hD : Dj C (I ca) A D M) :
    ∃ I', F_X1_start (some co) (some b) (mk S I L R n) = some (mk S I' L R n) ∧ (I' co 1 = nI (ordF (fun d => decide (I ca (15 + 7 * d) = 0)) A C).length ∧ ∀ i, i < (ordF (fun d => decide (I ca (15 + 7 * d) = 0)) A C).length → I' o i = nI ((ordF (fun d => decide (I ca (15 + 7 * d) = 0)) A C).getD i 0)) ∧ CoR (pW P) (pC P) C (I ca) M (I' lf) (I' cf) ∧ (∀ j, j < 8 → I' lg j = I' lf j) ∧ (∀ j, j < 3 → I' cg j = I' cf j) ∧ ∀ x, x ≠ co → x ≠ o → x ≠ lf → x ≠ cf → x ≠ lg → x ≠ cg → I' x = I x := by
  have w2 := hP.2.1
  have w3 := hP.2.2.1
  have hC := hV.1
  have dlc : lf ≠ cf := sh_ne hk.2.2.1.2.1 hk.2.2.1.2.2.1 (by decide)
  have dlo : lf ≠ o := sh_ne hk.2.2.1.2.1 hk.2.2.1.1 (by decide)
  have dco : cf ≠ o := sh_ne hk.2.2.1.2.2.1 hk.2.2.1.1 (by decide)
  have dlk : lf ≠ co := sh_ne hk.2.2.1.2.1 hk.1.1 (by decide)
  have dck : cf ≠ co := sh_ne hk.2.2.1.2.2.1 hk.1.1 (by decide)
  have dal : ca ≠ lf := sh_ne hb.2.2.2.1 hk.2.2.1.2.1 (by decide)
  have dac : ca ≠ cf := sh_ne hb.2.2.2.1 hk.2.2.1.2.2.1 (by decide)
  have dak : ca ≠ co := sh_ne hb.2.2.2.1 hk.1.1 (by decide)
  have dao : ca ≠ o := sh_ne hb.2.2.2.1 hk.2.2.1.1 (by decide)
  have dgo : lg ≠ o := sh_ne hk.2.2.1.2.2.2.1 hk.2.2.1.1 (by decide)
  have dgk : lg ≠ co := sh_ne hk.2.2.1.2.2.2.1 hk.1.1 (by decide)
  have dho : cg ≠ o := sh_ne hk.2.2.1.2.2.2.2 hk.2.2.1.1 (by decide)
  have dhk : cg ≠ co := sh_ne hk.2.2.1.2.2.2.2 hk.1.1 (by decide)
  obtain ⟨I1, hI1⟩ : ∃ I1, I1 = up2 I co 1 0 := ⟨_, rfl⟩
  obtain ⟨I2, hI2⟩ : ∃ I2, I2 = up1 I1 lf (fun j => if 0 ≤ j ∧ j < 8 then 0 else I1 lf j) := ⟨_, rfl⟩
  obtain ⟨I3, hI3⟩ : ∃ I3, I3 = up1 I2 cf (fun j => if 0 ≤ j ∧ j < 3 then 0 else I2 cf j) := ⟨_, rfl⟩
  have k3 : ∀ x, x ≠ co → x ≠ lf → x ≠ cf → I3 x = I x := fun x z1 z2 z3 => by rw [hI3, up1_ne _ _ z3, hI2, up1_ne _ _ z2, hI1, up2_ne _ _ _ z1]
  have c1 : I3 co 1 = nI ([] : List Nat).length := by rw [hI3, up1_ne _ _ dck.symm, hI2, up1_ne _ _ dlk.symm, hI1, up2_self]; rfl
  obtain ⟨I4, q1, ⟨q2, q2'⟩, q3, q4, q5⟩ := c_startL2 (L := L) (n := n) hP hb hk hV hO C mm_N 0 I3 [] (by omega) (by show C < 1000000; omega) (k3 ca dak dal dac) (Nat.le_refl _) (fun d hd => nomatch hd) c1 (fun i hi => nomatch hi) (fun l hl => .inl ⟨by rw [hI3, up1_ne _ _ dlc, hI2, up1_self]; exact if_pos ⟨by omega, by omega⟩, fun d hd => nomatch hd⟩) (fun l hl => .inl ⟨by rw [hI3, up1_self]; exact if_pos ⟨by omega, by omega⟩, fun d hd => nomatch hd⟩)
  have k4 : ∀ x, x ≠ co → x ≠ o → x ≠ lf → x ≠ cf → I4 x = I x := fun x z1 z2 z3 z4 => by rw [q5 x z1 z2 z3 z4, k3 x z1 z3 z4]
  obtain ⟨I5, r1, r2, r3, r4, r5, r6⟩ := c_doorsL2 (L := L) (n := n) hP hw hb hk hn hpl 8 mm_N 0 I4 (by omega) (by show 8 < 1000000; omega) (hp.keep hw (fun x z _ => k4 x (fun q => hn.2.1 (q ▸ z)) (fun q => hn.2.2.1 (q ▸ z)) (fun q => hn.2.2.2.1 (q ▸ z)) (fun q => hn.2.2.2.2.1 (q ▸ z))))
  refine ⟨I5, ?_, ⟨?_, fun i hi => ?_⟩, ?_, r4, r5, fun x z1 z2 z3 z4 z5 z6 => by rw [r6 x z3 z5 z6, k4 x z1 z2 z3 z4]⟩
  · unfold F_X1_start
    have f1 := c_fill (L := L) (R := R) (n := n) hk.2.2.1.2.1 (by decide) hk.2.2.2.1.2.1 0 I1
    have f2 := c_fill (L := L) (R := R) (n := n) hk.2.2.1.2.2.1 (by decide) hk.2.2.2.1.2.2.1 0 I2
    rw [← hI2] at f1
    rw [← hI3] at f2
    rw [cq_p1 hk, Option.bind_some, cq_2 hk, Option.bind_some, ← hI1, f1, Option.bind_some, cq_3 hk, Option.bind_some, f2, Option.bind_some]
    exact q1.trans r1
  · rw [r6 co dlk.symm dgk.symm dhk.symm, q2]
    unfold ordF
    rw [List.length_reverse]
  · unfold ordF at hi
    rw [List.length_reverse] at hi
    rw [r6 o dlo.symm dgo.symm dho.symm, q2' i hi]
    rfl
  · have e4 : I4 ca = I ca := k4 ca dak dao dal dac
    refine CoR.of hP hV hM hD q3 (by rw [r3]; exact q4) (fun l hl => ?_)
    rw [r2 l (by omega), e4, isL_nI hl (by omega), Bool.true_and]
    by_cases h9 : hasB (I ca 2) (nI l) = true
    · rw [if_pos ⟨by omega, h9⟩, if_pos h9]
    · rw [if_neg (fun q => h9 q.2), if_neg h9]
end CSt2
