/-! the class reads a text -/
def CTo (Z : CX0) (B : BT) (r : DLR) (v : Int32) (I' : mkI) : Prop := match r with
  | .inl e => v = 0 ∧ FlC e I'
  | .inr (t', D') => v = 1 ∧ ∃ w l, l.length + 2 ≤ t'.1 ∧ PsC Z B w t' l I' ∧ DfC D' l I'
theorem DO.to {Z : CX0} {B : BT} {w s : Nat} {l : List Nat} {r : DLR} {v : Int32} {I' : mkI} (h : DO Z B w l r v I') (ho : DGo B s r) (hl : l.length + 2 ≤ s) : CTo Z B r v I' := by
  cases r with
  | inl e => exact h
  | inr p => exact ⟨h.1, w, l, Nat.le_trans hl ho.2.1, h.2.1, h.2.2⟩
theorem LO.to {Z : CX0} {B : BT} {w s : Nat} {b : Bool} {c : Nat} {l : List Nat} {D : DR} {t : TKN} {v : Int32} {I' : mkI} (h : LO Z B w l D (lawLP B w t) v I') (ho : RGo B w b c s (lawLP B w t)) (hl : l.length + 2 ≤ s) : CTo Z B (lawD B D w t) v I' := by
  unfold lawD
  cases e : lawLP B w t with
  | inl q => rw [e] at h; exact h
  | inr q =>
    obtain ⟨t', l'⟩ := q
    rw [e] at h ho
    exact ⟨h.1, w, l ++ l', by rw [List.length_append]; have := ho.2.1; show l.length + l'.length + 2 ≤ t'.1; omega, h.2.1, h.2.2⟩
section CRd
variable {Ls : Nat} {xs : Nat → Int32} {S : mkS} {L : mkL} {R : mkR} {n : Nat × Nat} {B : BT}
theorem c_step (hs : St S R) (hB : B.2 ≤ 900) {D : DR} {w : Nat} {t : TKN} {l : List Nat} {I : mkI} (h : PsC (Ls, xs, S, R) B w t l I) (hD : DfC D l I) (hG : DG D) (hg : TKg B.1 B.2 t) (hlt : l.length + 2 ≤ t.1) (hk : t.2.2 ≠ 0) {i : Nat} (hi : i < 900) (g : Nat) : ∃ I' v, F_X7_read_34 (g + 1) (some 163) 1 (nI i) (mk S I L R n) = F_X7_read_184 (F_X7_read_34 g) (some 163) v (nI i) (mk S I' L R n) ∧ CTo (Ls, xs, S, R) B (itemP B D t) v I' ∧ kL I I' := by
  have hl := h.len hg (by omega)
  have W := fun {a : Nat} (ha : a < 51) => c_word (L := L) (n := n) hs h hg ha
  have z0 : b2i false = 0 := rfl
  have z1 : ¬ b2i true = 0 := by decide
  simp only [F_X7_read_34]
  rw [if_neg (show ¬ (900 : Int32) ≤ nI i from nI_ge (b := 900) hi (by omega)), if_neg (by decide), gr_163_0 hs, Option.bind_some, cv_164 hs, c_isEnd hs hg h.2.2.1, b2_some, decide_eq_false hk, if_pos z0]
  have hok := itemP_ok hB hG hg
  unfold itemP at hok ⊢
  rw [gr_163_0 hs, Option.bind_some, cv_164 hs, W (a := 4) (by decide), b2_some]
  by_cases e1 : wB B.1 t (wsOf 4) = true
  · obtain ⟨I', v, q1, q2, q3⟩ := c_readCord (L := L) (n := n) hs h hD hg hk hl
    rw [if_pos e1] at hok ⊢
    rw [e1, if_neg z1, cv_163 hs, q1, b2_some]
    exact ⟨I', v, rfl, q2.to hok (by omega), q3⟩
  rw [if_neg e1] at hok ⊢
  rw [show wB B.1 t (wsOf 4) = false by simpa using e1, if_pos z0, gr_163_0 hs, Option.bind_some, cv_164 hs, W (a := 5) (by decide), b2_some]
  by_cases e2 : wB B.1 t (wsOf 5) = true
  · obtain ⟨I', v, q1, q2, q3⟩ := c_readCall (L := L) (n := n) hs h hD hg hl
    rw [if_pos e2] at hok ⊢
    rw [e2, if_neg z1, cv_163 hs, q1, b2_some]
    exact ⟨I', v, rfl, q2.to hok (by omega), q3⟩
  rw [if_neg e2] at hok ⊢
  rw [show wB B.1 t (wsOf 5) = false by simpa using e2, if_pos z0, gr_163_0 hs, Option.bind_some, cv_164 hs, W (a := 9) (by decide), b2_some]
  by_cases e3 : wB B.1 t (wsOf 9) = true
  · obtain ⟨I', v, q1, q2, q3⟩ := c_readLaw (L := L) (n := n) hs (w := 0) (by decide) h hD hg (by omega)
    rw [if_pos e3] at hok ⊢
    rw [e3, if_neg z1, cv_163 hs, show F_X7_readLaw (some 163) 0 (mk S I L R n) = _ from q1, b2_some]
    exact ⟨I', v, rfl, q2.to (lawLP_ok hg hk) (by omega), q3⟩
  rw [if_neg e3] at hok ⊢
  rw [show wB B.1 t (wsOf 9) = false by simpa using e3, if_pos z0, gr_163_0 hs, Option.bind_some, cv_164 hs, W (a := 15) (by decide), b2_some]
  by_cases e4 : wB B.1 t (wsOf 15) = true
  · obtain ⟨I', v, q1, q2, q3⟩ := c_readLaw (L := L) (n := n) hs (w := 1) (by decide) h hD hg (by omega)
    rw [if_pos e4] at hok ⊢
    rw [e4, if_neg z1, cv_163 hs, show F_X7_readLaw (some 163) 1 (mk S I L R n) = _ from q1, b2_some]
    exact ⟨I', v, rfl, q2.to (lawLP_ok hg hk) (by omega), q3⟩
  rw [if_neg e4] at hok ⊢
  rw [show wB B.1 t (wsOf 15) = false by simpa using e4, if_pos z0, gr_163_0 hs, Option.bind_some, cv_164 hs, W (a := 19) (by decide), b2_some]
  by_cases e5 : wB B.1 t (wsOf 19) = true
  · obtain ⟨I', v, q1, q2, q3⟩ := c_readLaw (L := L) (n := n) hs (w := 2) (by decide) h hD hg (by omega)
    rw [if_pos e5] at hok ⊢
    rw [e5, if_neg z1, cv_163 hs, show F_X7_readLaw (some 163) 2 (mk S I L R n) = _ from q1, b2_some]
    exact ⟨I', v, rfl, q2.to (lawLP_ok hg hk) (by omega), q3⟩
  rw [if_neg e5] at hok ⊢
  rw [show wB B.1 t (wsOf 19) = false by simpa using e5, if_pos z0, gr_163_0 hs, Option.bind_some, cv_164 hs, W (a := 14) (by decide), b2_some]
  by_cases e6 : wB B.1 t (wsOf 14) = true
  · obtain ⟨I', v, q1, q2, q3⟩ := c_readMinute (L := L) (n := n) hs h hD hg hl
    rw [if_pos e6] at hok ⊢
    rw [e6, if_neg z1, cv_163 hs, q1, b2_some]
    exact ⟨I', v, rfl, q2.to hok (by omega), q3⟩
  obtain ⟨I', q1, q2, q3⟩ := c_refuse (L := L) (n := n) hs h hg hl 2
  rw [if_neg e6] at hok ⊢
  rw [show wB B.1 t (wsOf 14) = false by simpa using e6, if_pos z0, cv_163 hs, show F_X7_refuse (some 163) 2 (mk S I L R n) = _ from q1, b2_some]
  exact ⟨I', 0, rfl, ⟨rfl, q2⟩, q3.l⟩
theorem c_stop {I : mkI} {i g : Nat} : F_X7_read_34 (g + 1) (some 163) 0 (nI i) (mk S I L R n) = some (mk S I L R n) := by
  simp only [F_X7_read_34]
  unfold F_X7_read_207
  rw [if_pos trivial, ite_self]
theorem c_lines (hs : St S R) (hB : B.2 ≤ 900) : ∀ (r g i : Nat) (t : TKN) (D : DR) (w : Nat) (l : List Nat) (I : mkI), i + r = 900 → r + 1 < g → PsC (Ls, xs, S, R) B w t l I → DfC D l I → DG D → TKg B.1 B.2 t → l.length + 2 ≤ t.1 → ∃ I' v, F_X7_read_34 g (some 163) 1 (nI i) (mk S I L R n) = some (mk S I' L R n) ∧ CTo (Ls, xs, S, R) B (linesP B r t D) v I' ∧ kL I I' := by
  intro r
  induction r with
  | zero =>
    intro g i t D w l I hi hg' h hD hG hg hlt
    obtain ⟨g, rfl⟩ : ∃ y, g = y + 1 := ⟨g - 1, by omega⟩
    refine ⟨I, 1, ?_, ⟨rfl, w, l, hlt, h, hD⟩, fun _ _ => rfl⟩
    simp only [F_X7_read_34]
    unfold F_X7_read_207
    rw [if_pos (show (900 : Int32) ≤ nI i from nI_le (a := 900) (by omega) (by omega))]
  | succ r ih =>
    intro g i t D w l I hi hg' h hD hG hg hlt
    obtain ⟨g, rfl⟩ : ∃ y, g = y + 1 := ⟨g - 1, by omega⟩
    rw [linesP]
    by_cases e : t.2.2 = 0
    · rw [if_pos e]
      refine ⟨I, 1, ?_, ⟨rfl, w, l, hlt, h, hD⟩, fun _ _ => rfl⟩
      simp only [F_X7_read_34]
      unfold F_X7_read_207
      rw [if_neg (show ¬ (900 : Int32) ≤ nI i from nI_ge (b := 900) (by omega) (by omega)), if_neg (by decide), gr_163_0 hs, Option.bind_some, cv_164 hs, c_isEnd hs hg h.2.2.1, b2_some, decide_eq_true e, if_neg (show ¬ b2i true = 0 by decide)]
    · rw [if_neg e]
      obtain ⟨I1, v1, q1, q2, q3⟩ := c_step (L := L) (n := n) hs hB h hD hG hg hlt e (show i < 900 by omega) g
      have hok := itemP_ok hB hG hg
      rw [q1]
      unfold lineP F_X7_read_184 F_X7_read_199 F_X7_read_200
      obtain ⟨g', rfl⟩ : ∃ y, g = y + 1 := ⟨g - 1, by omega⟩
      have stop : ∀ {J : mkI}, F_X7_read_34 (g' + 1) (some 163) 0 (nI i + 1) (mk S J L R n) = some (mk S J L R n) := fun {J} => by rw [nI_1]; exact c_stop
      cases e2 : itemP B D t with
      | inl q =>
        rw [e2] at q2
        obtain ⟨rfl, q2⟩ := q2
        rw [if_pos rfl, stop]
        exact ⟨I1, 0, rfl, ⟨rfl, q2⟩, q3⟩
      | inr q =>
        obtain ⟨t1, D1⟩ := q
        rw [e2] at q2 hok
        obtain ⟨rfl, w1, l1, b1, b2, b3⟩ := q2
        obtain ⟨I2, v2, r1, r2', r3⟩ := c_endLine (L := L) (n := n) hs b2 b3 hok.1 (b2.len hok.1 (by omega))
        have r2 : DO (Ls, xs, S, R) B w1 l1 (endP B t1 D1) v2 I2 := r2'
        clear r2'
        have hok2 := endP_ok hok.2.2 hok.1
        rw [if_neg (by decide), cv_163 hs, r1, b2_some]
        show ∃ I' v, _ ∧ CTo _ B (dth (endP B t1 D1) fun t' D' => linesP B r t' D') v I' ∧ _
        cases e3 : endP B t1 D1 with
        | inl q =>
          rw [e3] at r2
          obtain ⟨rfl, r2⟩ := r2
          rw [if_pos rfl, stop]
          exact ⟨I2, 0, rfl, ⟨rfl, r2⟩, q3.tr r3⟩
        | inr q =>
          obtain ⟨t2, D2⟩ := q
          rw [e3] at r2 hok2
          obtain ⟨rfl, r2, r4⟩ := r2
          rw [if_neg (by decide), nI_1]
          obtain ⟨I3, v3, s1, s2, s3⟩ := ih (g' + 1) (i + 1) t2 D2 w1 l1 I2 (by omega) (by omega) r2 r4 hok2.2.2 hok2.1 (by have := hok2.2.1; omega)
          exact ⟨I3, v3, s1, s2, (q3.tr r3).tr s3⟩
/-- a fresh draft, nothing read -/
def DfC0 (I : mkI) : Prop := I 163 6 = 2 ∧ I 163 7 = 0 ∧ I 163 8 = 0 ∧ I 163 9 = 0 ∧ I 163 10 = 0 ∧ I 163 11 = 0 ∧ I 163 13 = 0 ∧ I 163 14 = -1 ∧ ∀ w, w < 3 → I 168 w = 0 ∧ I 169 w = 0
theorem c_clear7 (hs : St S R) (I : mkI) : ∃ I', F_X7_clear (some 163) (mk S I L R n) = some (mk S I' L R n) ∧ DfC0 I' ∧ (∀ x, x ≠ 163 → x ≠ 168 → x ≠ 169 → I' x = I x) ∧ I' 163 12 = I 163 12 := by
  obtain ⟨J, hJ⟩ : ∃ J, J = up2 (up2 (up2 (up2 (up2 (up2 (up2 (up2 I 163 6 2) 163 7 0) 163 8 0) 163 9 0) 163 10 0) 163 11 0) 163 13 0) 163 14 (-1) := ⟨_, rfl⟩
  have f1 := c_fill (L := L) (R := R) (n := n) (S_168 hs) (by decide) (by decide) 0 J
  have f2 := c_fill (L := L) (R := R) (n := n) (S_169 hs) (by decide) (by decide) 0 (up1 J 168 (fun j => if 0 ≤ j ∧ j < 3 then 0 else J 168 j))
  obtain ⟨K, hK⟩ : ∃ K, K = up1 (up1 J 168 (fun j => if 0 ≤ j ∧ j < 3 then 0 else J 168 j)) 169 (fun j => if 0 ≤ j ∧ j < 3 then 0 else (up1 J 168 (fun j => if 0 ≤ j ∧ j < 3 then 0 else J 168 j)) 169 j) := ⟨_, rfl⟩
  have kK : ∀ x, x ≠ 168 → x ≠ 169 → K x = J x := fun x a b => by rw [hK, up1_ne _ _ b, up1_ne _ _ a]
  have kp := kK 163 (by decide) (by decide)
  have jp : J 163 = up1 (up1 (up1 (up1 (up1 (up1 (up1 (up1 (I 163) 6 2) 7 0) 8 0) 9 0) 10 0) 11 0) 13 0) 14 (-1) := by rw [hJ]; simp only [up2_row]
  refine ⟨K, ?_, ⟨?_, ?_, ?_, ?_, ?_, ?_, ?_, ?_, fun w hw => ⟨?_, ?_⟩⟩, fun x a b c => ?_, ?_⟩
  · unfold F_X7_clear
    rw [pi_163_6 hs, Option.bind_some, pi_163_7 hs, Option.bind_some, pi_163_8 hs, Option.bind_some, pi_163_9 hs, Option.bind_some, pi_163_10 hs, Option.bind_some, pi_163_11 hs, Option.bind_some, pi_163_13 hs, Option.bind_some, pi_163_14 hs, Option.bind_some, ← hJ, gr_163_4 hs, Option.bind_some, f1, Option.bind_some, gr_163_5 hs, Option.bind_some, f2, Option.bind_some, ← hK]
  · rw [kp, jp]; rfl
  · rw [kp, jp]; rfl
  · rw [kp, jp]; rfl
  · rw [kp, jp]; rfl
  · rw [kp, jp]; rfl
  · rw [kp, jp]; rfl
  · rw [kp, jp]; rfl
  · rw [kp, jp]; rfl
  · rw [hK, up1_ne _ _ (by decide), up1_self, if_pos ⟨Nat.zero_le _, hw⟩]
  · rw [hK, up1_self, if_pos ⟨Nat.zero_le _, hw⟩]
  · rw [kK x b c, hJ]; simp only [up2_ne _ _ _ a]
  · rw [kp, jp]; rfl
theorem DfC0.d {I : mkI} (h : DfC0 I) : DfC dr0 [] I := by
  obtain ⟨h1, h2, h3, h4, h5, h6, h7, h8, h9⟩ := h
  exact ⟨⟨h1, h4, h5, by decide, by decide, by decide⟩, ⟨h2, by decide, fun k hk => absurd hk (Nat.not_lt_zero _)⟩, ⟨h3, by decide, fun k hk => absurd hk (Nat.not_lt_zero _)⟩, fun w hw => ⟨0, 0, (h9 w hw).1, (h9 w hw).2, Nat.le_refl _, Nat.zero_le _, rfl⟩⟩
/-- the end: what fault there is, and the draft -/
def CTe (r : DLR) (I' : mkI) : Prop := match r with
  | .inl e => I' 163 13 = nI e.1 ∧ I' 163 14 = nI e.2
  | .inr (_, D') => I' 163 13 = 0 ∧ I' 163 14 = -1 ∧ ∃ l, l.length ≤ 898 ∧ DfC D' l I' ∧ ∀ j, j < l.length → I' 167 j = nI (l.getD j 0)
theorem CTo.e {Z : CX0} {B : BT} {r : DLR} {v : Int32} {I' : mkI} (hr : ∀ t' D', r = .inr (t', D') → t'.1 ≤ 900) (h : CTo Z B r v I') : CTe r I' := by
  cases r with
  | inl e => exact ⟨h.2.1, h.2.2.1⟩
  | inr p =>
    obtain ⟨-, w, l, h1, h2, h3⟩ := h
    exact ⟨h2.2.2.2.1.2.1, h2.2.2.2.1.2.2, l, by have := hr p.1 p.2 rfl; omega, h3, h2.2.2.2.2.2⟩
theorem nI_any (x : Int32) : ∃ w, x = nI w := ⟨x.toBitVec.toNat, by
  show x = Int32.ofNat x.toBitVec.toNat
  exact Int32.toBitVec_inj.mp (by simp)⟩
theorem c_read (hs : St S R) {I : mkI} (hl : Low Ls xs S I R) {tb : Nat → Nat} {N : Nat} (hN : N ≤ 900) (hb : ∀ j, j < N → tb j < 256 ∧ I 129 j = sb (tb j)) : ∃ I', F_X7_read (some 163) (nI N) (mk S I L R n) = some (mk S I' L R n) ∧ CTe (textP (tb, N) dr0) I' ∧ kL I I' := by
  obtain ⟨I1, q1, q2, q3, q4⟩ := c_clear7 (L := L) (n := n) hs I
  have k1 : kL I I1 := fun x hx => q3 x (by show x ≠ 163; omega) (by show x ≠ 168; omega) (by show x ≠ 169; omega)
  have hl1 : Low Ls xs S I1 R := hl.fr (fun _ _ => rfl) (fun a ha => q3 a (by show a ≠ 163; omega) (by show a ≠ 168; omega) (by show a ≠ 169; omega)) (fun _ _ => rfl)
  obtain ⟨I2, r1, r2, r3, r4⟩ := c_open (L := L) (n := n) hs hl1 hN (fun j hj => by rw [q3 _ (by decide) (by decide) (by decide)]; exact hb j hj)
  have k2 : kL I1 I2 := fun x hx => r4 x (by show x ≠ 164; omega)
  obtain ⟨w, hw⟩ := nI_any (I 163 12)
  have p2 := r4 163 (by decide)
  have d2 : DfC dr0 [] I2 := by
    have := q2.d
    unfold DfC at this ⊢
    rw [p2, r4 165 (by decide), r4 166 (by decide), r4 168 (by decide), r4 169 (by decide)]
    exact this
  have P2 : PsC (Ls, xs, S, R) (tb, N) w (lx tb N 0) [] I2 := ⟨hl1.fr (fun _ _ => rfl) (fun a ha => r4 a (by show a ≠ 164; omega)) (fun _ _ => rfl), r2, r3, ⟨by rw [p2, q4, hw], by rw [p2]; exact q2.2.2.2.2.2.2.1, by rw [p2]; exact q2.2.2.2.2.2.2.2.1⟩, by rw [p2]; exact q2.2.2.2.2.2.1, fun j hj => absurd hj (Nat.not_lt_zero _)⟩
  have g2 : TKg tb N (lx tb N 0) := (lx_g (Nat.zero_le _)).1
  obtain ⟨I3, v3, s1, s2, s3⟩ := c_readHead (L := L) (n := n) (B := (tb, N)) hs (D := dr0) rfl P2 d2 g2 (Nat.zero_le _)
  have hok := head_ok (B := (tb, N)) g2
  have kk := (k1.tr k2).tr s3
  have e0 : (0 : Int32) = nI 0 := rfl
  obtain ⟨g, hg⟩ : ∃ g, mm_N = g + 1 := ⟨mm_N - 1, by unfold mm_N; omega⟩
  unfold F_X7_read textP
  rw [cv_163 hs, q1, Option.bind_some, gr_163_0 hs, Option.bind_some, cv_164 hs, r1, Option.bind_some, cv_163 hs, s1, b2_some]
  unfold F_X7_read_30 F_X7_read_31
  show ∃ I', _ ∧ CTe (dth (dth (headP (tb, N) dr0 (lx tb N 0)) (endP (tb, N))) fun t D => linesP (tb, N) 900 t D) I' ∧ _
  cases e2 : headP (tb, N) dr0 (lx tb N 0) with
  | inl q =>
    rw [e2] at s2
    obtain ⟨rfl, s2⟩ := s2
    rw [if_pos rfl, hg, show F_X7_read_34 (g + 1) (some 163) 0 0 (mk S I3 L R n) = _ from c_stop (i := 0)]
    exact ⟨I3, rfl, ⟨s2.1, s2.2.1⟩, kk⟩
  | inr q =>
    obtain ⟨t1, D1⟩ := q
    rw [e2] at s2 hok
    obtain ⟨rfl, b2, b3⟩ := s2
    obtain ⟨I4, v4, y1, y2', y3⟩ := c_endLine (L := L) (n := n) hs b2 b3 hok.1 (Nat.zero_le _)
    have y2 : DO (Ls, xs, S, R) (tb, N) w [] (endP (tb, N) t1 D1) v4 I4 := y2'
    clear y2'
    have hok2 := endP_ok hok.2.2 hok.1
    rw [if_neg (by decide), cv_163 hs, y1, b2_some]
    show ∃ I', _ ∧ CTe (dth (endP (tb, N) t1 D1) fun t D => linesP (tb, N) 900 t D) I' ∧ _
    cases e3 : endP (tb, N) t1 D1 with
    | inl q =>
      rw [e3] at y2
      obtain ⟨rfl, y2⟩ := y2
      rw [if_pos rfl, hg, show F_X7_read_34 (g + 1) (some 163) 0 0 (mk S I4 L R n) = _ from c_stop (i := 0)]
      exact ⟨I4, rfl, ⟨y2.1, y2.2.1⟩, kk.tr y3⟩
    | inr q =>
      obtain ⟨t2, D2⟩ := q
      rw [e3] at y2 hok2
      obtain ⟨rfl, y2, y4⟩ := y2
      obtain ⟨I5, v5, z1, z2, z3⟩ := c_lines (L := L) (n := n) (B := (tb, N)) hs hN 900 mm_N 0 t2 D2 w [] I4 rfl (by show 900 + 1 < 1000000; omega) y2 y4 hok2.2.2 hok2.1 (by have := hok.2.1; have := hok2.2.1; show 0 + 2 ≤ t2.1; omega)
      have z1 : F_X7_read_34 mm_N (some 163) 1 0 (mk S I4 L R n) = some (mk S I5 L R n) := z1
      rw [if_neg (by decide), z1]
      have ho := linesP_ok (B := (tb, N)) hN 900 t2 D2 hok2.2.2 hok2.1 (by omega)
      exact ⟨I5, rfl, z2.e (fun t' D' q => by
        have q' : linesP (tb, N) 900 t2 D2 = .inr (t', D') := q
        rw [q'] at ho; exact ho.2.2), (kk.tr y3).tr z3⟩
end CRd
