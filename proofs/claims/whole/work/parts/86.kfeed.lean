/-! feed -/
theorem ge_wide {a b : Nat} (h : b < a) (ha : a < 2147483648) : ¬ nI a ≤ nI b := nI_ge h ha
def tbv (x : Int32) (i : Nat) : Nat := ((x.toUInt32 >>> UInt32.ofNat (24 - 8 * i)) &&& 255).toNat
theorem tbv_lt (x : Int32) (i : Nat) : tbv x i < 256 := by
  unfold tbv
  rw [UInt32.toNat_and]
  exact Nat.lt_of_le_of_lt Nat.and_le_right (by decide)
theorem nI_u (u : UInt32) : nI u.toNat = u.toInt32 := by
  apply Int32.toBitVec_inj.mp
  rw [nI_bv]
  exact BitVec.ofNat_toNat ..
theorem tbv_r (x : Int32) (i : Nat) : ((x.toUInt32 >>> UInt32.ofNat (24 - 8 * i)).toInt32) &&& 255 = nI (tbv x i) := by
  unfold tbv
  rw [nI_u]
  rfl
theorem tbv_c (x : Int32) (i : Nat) (hi : i < 4) : (x >>> (nI (24 - 8 * i) &&& 31)).toInt8 = (nI (tbv x i)).toInt8 := by
  unfold tbv
  rw [nI_u]
  apply Int8.toBitVec_inj.mp
  rw [Int32.toBitVec_toInt8, Int32.toBitVec_toInt8, Int32.toBitVec_shiftRight]
  have e : ∀ i < 4, ((nI (24 - 8 * i) &&& 31).toBitVec.smod 32) = BitVec.ofNat 32 (24 - 8 * i) := by decide
  have e2 : ((x.toUInt32 >>> UInt32.ofNat (24 - 8 * i)) &&& 255).toInt32.toBitVec = (x.toBitVec >>> (UInt32.ofNat (24 - 8 * i)).toBitVec.toNat) &&& 255#32 := by
    have e3 : ∀ i < 4, (UInt32.ofNat (24 - 8 * i)).toBitVec.umod 32#32 = (UInt32.ofNat (24 - 8 * i)).toBitVec := by decide
    show ((x.toUInt32 >>> UInt32.ofNat (24 - 8 * i)) &&& 255).toBitVec = _
    rw [UInt32.toBitVec_and, UInt32.toBitVec_shiftRight]
    show (x.toBitVec >>> ((UInt32.ofNat (24 - 8 * i)).toBitVec.umod 32#32)) &&& _ = _
    rw [e3 i hi]
    rfl
  rw [e i hi, e2]
  have e4 : ∀ i < 4, (UInt32.ofNat (24 - 8 * i)).toBitVec.toNat = 24 - 8 * i := by decide
  have e5 : ∀ i < 4, (BitVec.ofNat 32 (24 - 8 * i)).toNat = 24 - 8 * i := by decide
  rw [e4 i hi]
  show (x.toBitVec.sshiftRight (BitVec.ofNat 32 (24 - 8 * i)).toNat).signExtend 8 = _
  rw [e5 i hi]
  apply BitVec.eq_of_getLsbD_eq
  intro j hj
  have e6 : ∀ j < 8, (255#32).getLsbD j = true := by decide
  rw [BitVec.getLsbD_signExtend, BitVec.getLsbD_signExtend, if_pos (show j < 32 by omega), if_pos (show j < 32 by omega), BitVec.getLsbD_sshiftRight, BitVec.getLsbD_and, BitVec.getLsbD_ushiftRight, e6 j hj]
  have h1 : ¬ 32 ≤ j := by omega
  have h2 : 24 - 8 * i + j < 32 := by omega
  simp [h1, h2]
/-- bytes put behind one another -/
def bmp (I : mkI) (a b f : Nat) (t : Nat) : List Int32 → mkI
  | [] => I
  | v :: l => bmp (up2 (up2 I a t v) b f (nI (t + 1))) a b f (t + 1) l
theorem bmp_app (a b f : Nat) : ∀ (l l2 : List Int32) (I : mkI) (t : Nat), bmp (bmp I a b f t l) a b f (t + l.length) l2 = bmp I a b f t (l ++ l2)
  | [], l2, I, t => rfl
  | v :: l, l2, I, t => by
    have := bmp_app a b f l l2 (up2 (up2 I a t v) b f (nI (t + 1))) (t + 1)
    rw [show t + 1 + l.length = t + (v :: l).length by simp; omega] at this
    exact this
theorem bmp_ne {a b f : Nat} : ∀ (l : List Int32) (I : mkI) (t x : Nat), x ≠ a → x ≠ b → bmp I a b f t l x = I x
  | [], I, t, x, h1, h2 => rfl
  | v :: l, I, t, x, h1, h2 => (bmp_ne l _ (t + 1) x h1 h2).trans (by rw [up2_ne _ _ _ h2, up2_ne _ _ _ h1])
theorem bmp_b {a b f : Nat} (hab : a ≠ b) : ∀ (l : List Int32) (I : mkI) (t j : Nat), bmp I a b f t l b j = if j = f ∧ l ≠ [] then nI (t + l.length) else I b j
  | [], I, t, j => by simp [bmp]
  | v :: l, I, t, j => by
    refine (bmp_b hab l _ (t + 1) j).trans ?_
    by_cases e : j = f
    · subst e
      cases l with
      | nil => simp [up2_self]
      | cons c l => simp; congr 1; omega
    · rw [if_neg (fun h => e h.1), if_neg (fun h => e h.1), up2_row, up1_ne _ _ e, up2_ne _ _ _ (Ne.symm hab)]
theorem bmp_a {a b f : Nat} (hab : a ≠ b) : ∀ (l : List Int32) (I : mkI) (t j : Nat), bmp I a b f t l a j = if t ≤ j ∧ j < t + l.length then l.getD (j - t) 0 else I a j
  | [], I, t, j => by rw [if_neg (by simp)]; rfl
  | v :: l, I, t, j => by
    refine (bmp_a hab l _ (t + 1) j).trans ?_
    rw [up2_ne _ _ _ hab, up2_row]
    by_cases e : j = t
    · subst e
      rw [if_neg (by omega), if_pos (by simp), up1_self]
      simp
    · by_cases h : t + 1 ≤ j ∧ j < t + 1 + l.length
      · rw [if_pos h, if_pos (by simp; omega)]
        obtain ⟨c, rfl⟩ : ∃ c, j = t + 1 + c := ⟨j - (t + 1), by omega⟩
        rw [show t + 1 + c - t = c + 1 by omega, show t + 1 + c - (t + 1) = c by omega]
        simp
      · rw [if_neg h, if_neg (by simp; omega), up1_ne _ _ e]
section FD
variable {S : mkS} {I : mkI} {L : mkL} {R : mkR} {n : Nat × Nat}
def cby (x : Int32) (i : Nat) : Int32 := (nI (tbv x i)).toInt8.toInt32
theorem c_tape1 (hs : St S R) (x : Int32) {t i : Nat} (hi : i < 4) (ht : t < 900) (h : I 128 1 = nI t) (g : Nat) : F_X11_putOnTape_3 (g + 1) (some 128) x (nI (24 - 8 * i)) (mk S I L R n) = F_X11_putOnTape_3 g (some 128) x (nI (24 - 8 * i) + -8) (mk S (bmp I 129 128 1 t [cby x i]) L R n) := by
  simp only [F_X11_putOnTape_3]
  rw [if_neg (show ¬ nI (24 - 8 * i) < 0 from nI_pos (by omega)), gi_128_1 hs, Option.bind_some, h, if_neg (nI_pos (by omega)), Option.bind_some, if_neg (ge_li 900 (by omega) (by decide)), gr_128_0 hs, Option.bind_some, Option.bind_some, tbv_c x i hi, si_129 hs ht, Option.bind_some, gi_128_1 hs, Option.bind_some, up2_ne _ _ _ (by decide), h, nI_1, pi_128_1 hs, Option.bind_some, Int8.toInt8_toInt32]
  rfl
theorem c_tapeE (x v : Int32) (h : v < 0) (g : Nat) (a : Option Nat) (H : MH) : F_X11_putOnTape_3 (g + 1) a x v H = some H := by
  simp only [F_X11_putOnTape_3]
  rw [if_pos h]
theorem c_tapeG (hs : St S R) (x : Int32) {t : Nat} (ht : t + 4 ≤ 900) (h : I 128 1 = nI t) (g : Nat) : F_X11_putOnTape_3 (g + 1 + 1 + 1 + 1 + 1) (some 128) x 24 (mk S I L R n) = some (mk S (bmp I 129 128 1 t [cby x 0, cby x 1, cby x 2, cby x 3]) L R n) := by
  have h1 : bmp I 129 128 1 t [cby x 0] 128 1 = nI (t + 1) := by rw [bmp_b (by decide)]; simp
  have h2 : bmp I 129 128 1 t [cby x 0, cby x 1] 128 1 = nI (t + 2) := by rw [bmp_b (by decide)]; simp
  have h3 : bmp I 129 128 1 t [cby x 0, cby x 1, cby x 2] 128 1 = nI (t + 3) := by rw [bmp_b (by decide)]; simp
  have n0 : (24 : Int32) = nI (24 - 8 * 0) := by decide
  have n1 : nI (24 - 8 * 0) + -8 = nI (24 - 8 * 1) := by decide
  have n2 : nI (24 - 8 * 1) + -8 = nI (24 - 8 * 2) := by decide
  have n3 : nI (24 - 8 * 2) + -8 = nI (24 - 8 * 3) := by decide
  have n4 : nI (24 - 8 * 3) + -8 < 0 := by decide
  have a1 := bmp_app 129 128 1 [cby x 0] [cby x 1] I t
  have a2 := bmp_app 129 128 1 [cby x 0, cby x 1] [cby x 2] I t
  have a3 := bmp_app 129 128 1 [cby x 0, cby x 1, cby x 2] [cby x 3] I t
  simp only [List.length_cons, List.length_nil, Nat.zero_add, List.cons_append, List.nil_append, Nat.reduceAdd] at a1 a2 a3
  rw [n0, c_tape1 hs x (by decide) (by omega) h, n1, c_tape1 hs x (by decide) (by omega) h1, a1, n2, c_tape1 hs x (by decide) (by omega) h2, a2, n3, c_tape1 hs x (by decide) (by omega) h3, a3, c_tapeE x _ n4]
theorem c_tape (hs : St S R) (x : Int32) {t : Nat} (ht : t + 4 ≤ 900) (h : I 128 1 = nI t) : F_X11_putOnTape (some 128) x (mk S I L R n) = some (mk S (bmp I 129 128 1 t [cby x 0, cby x 1, cby x 2, cby x 3]) L R n) := by
  unfold F_X11_putOnTape
  obtain ⟨g, eg⟩ : ∃ g, mm_N = g + 1 + 1 + 1 + 1 + 1 := ⟨mm_N - 5, by unfold mm_N; omega⟩
  rw [eg]
  exact c_tapeG hs x ht h g
end FD
def fby (f : Int32 → Nat → Int32) (a b c d e : Int32) : List Int32 := [a, b, c, d, e].flatMap (fun x => [f x 0, f x 1, f x 2, f x 3])
section FE
variable {S : mkS} {I : mkI} {L : mkL} {R : mkR} {n : Nat × Nat}
theorem c_feed (hs : St S R) (a b c d e : Int32) {t : Nat} (h : I 128 1 = nI t) (ht : t ≤ 900) : F_X11_feed (some 128) a b c d e (mk S I L R n) = if t + 20 ≤ 900 then some (nI (t + 20), mk S (bmp I 129 128 1 t (fby cby a b c d e)) L R n) else some (-1, mk S I L R n) := by
  unfold F_X11_feed
  rw [gi_128_1 hs, Option.bind_some, h, show nI t + 20 = nI (t + 20) from nI_add t 20]
  by_cases q : t + 20 ≤ 900
  · rw [if_pos (show nI (t + 20) ≤ (900 : Int32) from nI_le q (by decide)), if_pos q]
    have h5 : ∀ (l : List Int32), l ≠ [] → bmp I 129 128 1 t l 128 1 = nI (t + l.length) := fun l hl => by rw [bmp_b (by decide), if_pos ⟨rfl, hl⟩]
    have f1 := bmp_app 129 128 1 [cby a 0, cby a 1, cby a 2, cby a 3] [cby b 0, cby b 1, cby b 2, cby b 3] I t
    have f2 := bmp_app 129 128 1 [cby a 0, cby a 1, cby a 2, cby a 3, cby b 0, cby b 1, cby b 2, cby b 3] [cby c 0, cby c 1, cby c 2, cby c 3] I t
    have f3 := bmp_app 129 128 1 [cby a 0, cby a 1, cby a 2, cby a 3, cby b 0, cby b 1, cby b 2, cby b 3, cby c 0, cby c 1, cby c 2, cby c 3] [cby d 0, cby d 1, cby d 2, cby d 3] I t
    have f4 := bmp_app 129 128 1 [cby a 0, cby a 1, cby a 2, cby a 3, cby b 0, cby b 1, cby b 2, cby b 3, cby c 0, cby c 1, cby c 2, cby c 3, cby d 0, cby d 1, cby d 2, cby d 3] [cby e 0, cby e 1, cby e 2, cby e 3] I t
    simp only [List.length_cons, List.length_nil, Nat.zero_add, List.cons_append, List.nil_append, Nat.reduceAdd] at f1 f2 f3 f4
    have g1 : bmp I 129 128 1 t [cby a 0, cby a 1, cby a 2, cby a 3] 128 1 = nI (t + 4) := by rw [bmp_b (by decide)]; simp
    have g2 : bmp I 129 128 1 t [cby a 0, cby a 1, cby a 2, cby a 3, cby b 0, cby b 1, cby b 2, cby b 3] 128 1 = nI (t + 8) := by rw [bmp_b (by decide)]; simp
    have g3 : bmp I 129 128 1 t [cby a 0, cby a 1, cby a 2, cby a 3, cby b 0, cby b 1, cby b 2, cby b 3, cby c 0, cby c 1, cby c 2, cby c 3] 128 1 = nI (t + 12) := by rw [bmp_b (by decide)]; simp
    have g4 : bmp I 129 128 1 t [cby a 0, cby a 1, cby a 2, cby a 3, cby b 0, cby b 1, cby b 2, cby b 3, cby c 0, cby c 1, cby c 2, cby c 3, cby d 0, cby d 1, cby d 2, cby d 3] 128 1 = nI (t + 16) := by rw [bmp_b (by decide)]; simp
    have g5 : bmp I 129 128 1 t [cby a 0, cby a 1, cby a 2, cby a 3, cby b 0, cby b 1, cby b 2, cby b 3, cby c 0, cby c 1, cby c 2, cby c 3, cby d 0, cby d 1, cby d 2, cby d 3, cby e 0, cby e 1, cby e 2, cby e 3] 128 1 = nI (t + 20) := by rw [bmp_b (by decide)]; simp
    have ef : fby cby a b c d e = [cby a 0, cby a 1, cby a 2, cby a 3, cby b 0, cby b 1, cby b 2, cby b 3, cby c 0, cby c 1, cby c 2, cby c 3, cby d 0, cby d 1, cby d 2, cby d 3, cby e 0, cby e 1, cby e 2, cby e 3] := by simp only [fby, List.flatMap_cons, List.flatMap_nil, List.cons_append, List.nil_append]
    rw [cv_128 hs, c_tape hs a (by omega) h, Option.bind_some, cv_128 hs, c_tape hs b (by omega) g1, Option.bind_some, f1, cv_128 hs, c_tape hs c (by omega) g2, Option.bind_some, f2, cv_128 hs, c_tape hs d (by omega) g3, Option.bind_some, f3, cv_128 hs, c_tape hs e (by omega) g4, Option.bind_some, f4, gi_128_1 hs, Option.bind_some, g5, ef]
  · rw [if_neg (show ¬ nI (t + 20) ≤ (900 : Int32) from ge_wide (a := t + 20) (b := 900) (by omega) (by omega)), if_neg q]
def rby (x : Int32) (i : Nat) : Int32 := nI (tbv x i)
theorem e_feed1 (hs : St S R) (a b c d e : Int32) {t i : Nat} (hi : i < 20) (ht : t < 900) (h : I 197 6 = nI t) (g : Nat) : F_X12_feed_23 (g + 1) (some 197) a b c d e (nI i) (mk S I L R n) = F_X12_feed_23 g (some 197) a b c d e (nI (i + 1)) (mk S (bmp I 202 197 6 t [(fby rby a b c d e).getD i 0]) L R n) := by
  have key : ∀ x, F_X12_feed_76 (F_X12_feed_23 g) (some 197) a b c d e (nI i) x (mk S I L R n) = F_X12_feed_23 g (some 197) a b c d e (nI (i + 1)) (mk S (bmp I 202 197 6 t [rby x (i % 4)]) L R n) := fun x => by
    unfold F_X12_feed_76
    have e0 : ∀ i < 20, ((24 : Int32) - 8 * (nI i &&& 3)).toUInt32 &&& Int32.toUInt32 31 = UInt32.ofNat (24 - 8 * (i % 4)) := by decide
    rw [gr_197_5 hs, Option.bind_some, gi_197_6 hs, Option.bind_some, h, e0 i hi, tbv_r, si_202 hs ht, Option.bind_some, gi_197_6 hs, Option.bind_some, up2_ne _ _ _ (by decide), h, nI_1, pi_197_6 hs, Option.bind_some, nI_1]
    rfl
  simp only [F_X12_feed_23]
  rw [if_neg (ge_li 20 hi (by decide))]
  by_cases h1 : i < 4
  · rw [if_neg (ge_li 4 h1 (by decide)), key a]
    have : ∀ i < 4, ∀ (a b c d e : Int32), rby a (i % 4) = (fby rby a b c d e).getD i 0 := fun i hi => by
      match i, hi with
      | 0, _ => intros; rfl
      | 1, _ => intros; rfl
      | 2, _ => intros; rfl
      | 3, _ => intros; rfl
    rw [this i h1 a b c d e]
  rw [if_pos (le_li 4 (by omega) (by omega))]
  by_cases h2 : i < 8
  · rw [if_neg (ge_li 8 h2 (by decide)), key b]
    have : ∀ j < 4, ∀ (a b c d e : Int32), rby b ((4 + j) % 4) = (fby rby a b c d e).getD (4 + j) 0 := fun i hi => by
      match i, hi with
      | 0, _ => intros; rfl
      | 1, _ => intros; rfl
      | 2, _ => intros; rfl
      | 3, _ => intros; rfl
    have := this (i - 4) (by omega) a b c d e
    rw [show 4 + (i - 4) = i by omega] at this
    rw [this]
  rw [if_pos (le_li 8 (by omega) (by omega))]
  by_cases h3 : i < 12
  · rw [if_neg (ge_li 12 h3 (by decide)), key c]
    have : ∀ j < 4, ∀ (a b c d e : Int32), rby c ((8 + j) % 4) = (fby rby a b c d e).getD (8 + j) 0 := fun i hi => by
      match i, hi with
      | 0, _ => intros; rfl
      | 1, _ => intros; rfl
      | 2, _ => intros; rfl
      | 3, _ => intros; rfl
    have := this (i - 8) (by omega) a b c d e
    rw [show 8 + (i - 8) = i by omega] at this
    rw [this]
  rw [if_pos (le_li 12 (by omega) (by omega))]
  by_cases h4 : i < 16
  · rw [if_neg (ge_li 16 h4 (by decide)), key d]
    have : ∀ j < 4, ∀ (a b c d e : Int32), rby d ((12 + j) % 4) = (fby rby a b c d e).getD (12 + j) 0 := fun i hi => by
      match i, hi with
      | 0, _ => intros; rfl
      | 1, _ => intros; rfl
      | 2, _ => intros; rfl
      | 3, _ => intros; rfl
    have := this (i - 12) (by omega) a b c d e
    rw [show 12 + (i - 12) = i by omega] at this
    rw [this]
  rw [if_pos (le_li 16 (by omega) (by omega)), key e]
  have : ∀ j < 4, ∀ (a b c d e : Int32), rby e ((16 + j) % 4) = (fby rby a b c d e).getD (16 + j) 0 := fun i hi => by
    match i, hi with
    | 0, _ => intros; rfl
    | 1, _ => intros; rfl
    | 2, _ => intros; rfl
    | 3, _ => intros; rfl
  have := this (i - 16) (by omega) a b c d e
  rw [show 16 + (i - 16) = i by omega] at this
  rw [this]
theorem e_feedL (hs : St S R) (a b c d e : Int32) : ∀ (r g i t : Nat) (I : mkI), i + r = 20 → r < g → t + r ≤ 900 → I 197 6 = nI t → F_X12_feed_23 g (some 197) a b c d e (nI i) (mk S I L R n) = some (nI (t + r), mk S (bmp I 202 197 6 t ((fby rby a b c d e).drop i)) L R n)
  | 0, g, i, t, I, hi, hg, ht, h => by
    obtain ⟨g, rfl⟩ : ∃ z, g = z + 1 := ⟨g - 1, by omega⟩
    have : i = 20 := by omega
    subst this
    simp only [F_X12_feed_23]
    rw [if_pos (by decide), gi_197_6 hs, Option.bind_some, h]
    rfl
  | r + 1, g, i, t, I, hi, hg, ht, h => by
    obtain ⟨g, rfl⟩ : ∃ z, g = z + 1 := ⟨g - 1, by omega⟩
    have hl : (fby rby a b c d e).length = 20 := rfl
    rw [e_feed1 hs a b c d e (by omega) (by omega) h, e_feedL hs a b c d e r g (i + 1) (t + 1) _ (by omega) (by omega) (by omega) (by rw [bmp_b (by decide)]; simp)]
    have := List.drop_eq_getElem_cons (l := fby rby a b c d e) (i := i) (by omega)
    rw [this, show (fby rby a b c d e).getD i 0 = (fby rby a b c d e)[i]'(by omega) from by rw [List.getD_eq_getElem?_getD, List.getElem?_eq_getElem (by omega)]; rfl, show t + 1 + r = t + (r + 1) by omega]
    rfl
end FE
theorem InvC.tp {tb tb' : Nat → Nat} {tn tn' : Nat} {fk fp : Int32} {w : WD} {tr : TR} {im : IM} {k : Nat} {S : mkS} {I I' : mkI} {L : mkL} {R : mkR} {n : Nat × Nat} (h : InvC tb tn fk fp w tr im k S I L R n) (hI : ∀ a, a ≠ 128 → a ≠ 129 → I' a = I a) (ht : tn' ≤ 900 ∧ I' 128 1 = nI tn' ∧ ∀ j, j < tn' → tb' j < 256 ∧ I' 129 j = (nI (tb' j)).toInt8.toInt32) (hf : I' 128 3 = I 128 3 ∧ I' 128 4 = I 128 4) : InvC tb' tn' fk fp w tr im k S I' L R n := by
  obtain ⟨⟨s1, s2, s3, s4, s5, s6⟩, -, ⟨u1, u2⟩, v1, v2, v3, v4⟩ := h
  have pp : ∀ x, pa x → I' x = I x := fun x q => hI x (by unfold pa at q; omega) (by unfold pa at q; omega)
  refine ⟨⟨s1, s2, s3, s4, s5, s6⟩, ht, ⟨hf.1.trans u1, hf.2.trans u2⟩, v1.keep s2 (fun x q _ => ?_), fun t ht => ?_, ⟨v3.1, fun i hi => ?_⟩, ?_⟩
  · rcases q with q | q | q | q
    · exact hI x (by omega) (by omega)
    · exact hI x (by omega) (by omega)
    · exact hI x (by omega) (by omega)
    · exact pp x q
  · have := v2 t ht
    rw [hI _ (by omega) (by omega)]
    exact this
  · have := v3.2 i hi
    revert this
    cases im i with
    | none => exact id
    | some w =>
      rintro ⟨a, a1, a2, a3, a4⟩
      exact ⟨a, a1, a2, a3, a4.keep s2 (fun x q _ => hI x (by
        rcases q with q | q | q | q
        · omega
        · omega
        · omega
        · unfold pa at q; omega) (by
        rcases q with q | q | q | q
        · omega
        · omega
        · omega
        · unfold pa at q; omega))⟩
  · rcases v4 with v4 | ⟨p, P, p1, p2, p3, p4⟩
    · exact .inl v4
    · refine .inr ⟨p, P, p1, p2, p3.keep s2 (fun x q _ => pp x q), ?_⟩
      unfold PRes at *
      rw [hI 157 (by decide) (by decide), hI 159 (by decide) (by decide), hI 160 (by decide) (by decide)]
      exact p4
theorem fby_len (f : Int32 → Nat → Int32) (a b c d e : Int32) : (fby f a b c d e).length = 20 := by simp [fby]
theorem fby_at (a b c d e : Int32) (j : Nat) (hj : j < 20) : ∃ q < 256, (fby rby a b c d e).getD j 0 = nI q ∧ (fby cby a b c d e).getD j 0 = (nI q).toInt8.toInt32 := by
  have h : ∀ (l : List Int32) (j : Nat), j < 4 * l.length → ∃ q < 256, (l.flatMap (fun x => [rby x 0, rby x 1, rby x 2, rby x 3])).getD j 0 = nI q ∧ (l.flatMap (fun x => [cby x 0, cby x 1, cby x 2, cby x 3])).getD j 0 = (nI q).toInt8.toInt32 := by
    intro l
    induction l with
    | nil => intro j hj; simp at hj
    | cons x l ih =>
      intro j hj
      match j with
      | 0 => exact ⟨tbv x 0, tbv_lt x 0, rfl, rfl⟩
      | 1 => exact ⟨tbv x 1, tbv_lt x 1, rfl, rfl⟩
      | 2 => exact ⟨tbv x 2, tbv_lt x 2, rfl, rfl⟩
      | 3 => exact ⟨tbv x 3, tbv_lt x 3, rfl, rfl⟩
      | j + 4 => exact ih j (by simp at hj; omega)
  exact h [a, b, c, d, e] j hj
theorem k_feed (Ls : Nat) (xs : Nat → Int32) (a b c d e : Int32) : GoodP Ls xs (F_X11_feed (some 128) a b c d e) (F_X12_feed (some 197) a b c d e) := by
  intro k S I L R n ⟨hl, tb, tn, fk, fp, w, tr, im, hC, hR, hG⟩
  have hs := hC.1.1
  obtain ⟨t1, t2, t3⟩ := hC.2.1
  obtain ⟨⟨m1, m2, m3⟩, m4⟩ := hR
  by_cases q : tn + 20 ≤ 900
  · have hx : ∀ j, ∃ q, j < 20 → q < 256 ∧ (fby rby a b c d e).getD j 0 = nI q ∧ (fby cby a b c d e).getD j 0 = (nI q).toInt8.toInt32 := fun j => by
      by_cases hj : j < 20
      · obtain ⟨q, q1, q2, q3⟩ := fby_at a b c d e j hj
        exact ⟨q, fun _ => ⟨q1, q2, q3⟩⟩
      · exact ⟨0, fun h => absurd h hj⟩
    have ⟨u, hu⟩ := Classical.axiomOfChoice hx
    have hC' : InvC (fun j => if j < tn then tb j else u (j - tn)) (tn + 20) fk fp w tr im k S (bmp I 129 128 1 tn (fby cby a b c d e)) L R n := by
      refine hC.le.tp (fun x q1 q2 => bmp_ne _ _ _ _ q2 q1) ⟨q, ?_, fun j hj => ?_⟩ ⟨?_, ?_⟩
      · rw [bmp_b (by decide), if_pos ⟨rfl, fun h => by have := fby_len cby a b c d e; rw [h] at this; simp at this⟩, fby_len]
      · rw [bmp_a (by decide), fby_len]
        by_cases h : j < tn
        · rw [if_pos h, if_neg (by omega)]; exact t3 j h
        · obtain ⟨v1, v2, v3⟩ := hu (j - tn) (by omega)
          rw [if_neg h, if_pos (by omega)]
          exact ⟨v1, v3⟩
      · rw [bmp_b (by decide), if_neg (fun h => absurd h.1 (by decide))]
      · rw [bmp_b (by decide), if_neg (fun h => absurd h.1 (by decide))]
    have fC : FrC S S I (bmp I 129 128 1 tn (fby cby a b c d e)) L L R R := ⟨fun a q => ⟨rfl, bmp_ne _ _ _ _ (by omega) (by omega), rfl⟩, fun _ _ => rfl⟩
    have fR : FrR (bmp I 129 128 1 tn (fby cby a b c d e)) (bmp (up2 (bmp I 129 128 1 tn (fby cby a b c d e)) 197 4 0) 202 197 6 tn (fby rby a b c d e)) L L := fun a q => ⟨by rw [bmp_ne _ _ _ _ (by omega) (by omega), up2_ne _ _ _ (by omega)], rfl⟩
    refine pk_okP (v := nI (tn + 20)) hl ?_ ?_ fC fR hC' ?_ hG.le
    · rw [c_feed hs a b c d e t2 t1, if_pos q]
    · unfold F_X12_feed
      have e6 : (up2 (bmp I 129 128 1 tn (fby cby a b c d e)) 197 4 0) 197 6 = nI tn := by rw [up2_row, up1_ne _ _ (by decide), bmp_ne _ _ _ _ (by decide) (by decide)]; exact m2
      rw [pi_197_4 hs, Option.bind_some, gi_197_6 hs, Option.bind_some, e6, show nI tn + 20 = nI (tn + 20) from nI_add tn 20, if_pos (show nI (tn + 20) ≤ (900 : Int32) from nI_le q (by decide))]
      exact e_feedL hs a b c d e 20 mm_N 0 tn _ rfl (by unfold mm_N; decide) q e6
    · have m4' := InvR.ofC (tb := tb) (tn := tn) ⟨⟨m1, m2, m3⟩, m4⟩ fC
      obtain ⟨-, n4⟩ := m4'.m4 0
      have eb : ∀ z, z ≠ 202 → z ≠ 197 → bmp (up2 (bmp I 129 128 1 tn (fby cby a b c d e)) 197 4 0) 202 197 6 tn (fby rby a b c d e) z = up2 (bmp I 129 128 1 tn (fby cby a b c d e)) 197 4 0 z := fun z q1 q2 => bmp_ne _ _ _ _ q1 q2
      have em : ∀ j, j ≠ 6 → bmp (up2 (bmp I 129 128 1 tn (fby cby a b c d e)) 197 4 0) 202 197 6 tn (fby rby a b c d e) 197 j = up2 (bmp I 129 128 1 tn (fby cby a b c d e)) 197 4 0 197 j := fun j q => by rw [bmp_b (by decide), if_neg (fun h => q h.1)]
      refine ⟨⟨q, ?_, fun j hj => ?_⟩, ?_⟩
      · rw [bmp_b (by decide), if_pos ⟨rfl, fun h => by have := fby_len rby a b c d e; rw [h] at this; simp at this⟩, fby_len]
      · rw [bmp_a (by decide), fby_len]
        by_cases h : j < tn
        · rw [if_neg (by omega), up2_ne _ _ _ (by decide), bmp_ne _ _ _ _ (by decide) (by decide)]
          show _ = nI (if j < tn then tb j else u (j - tn))
          rw [if_pos h]; exact m3 j h
        · obtain ⟨v1, v2, v3⟩ := hu (j - tn) (by omega)
          rw [if_pos (by omega)]
          show _ = nI (if j < tn then tb j else u (j - tn))
          rw [if_neg h]; exact v2
      · unfold RTr RIm at *
        rw [em 14 (by decide), em 15 (by decide), eb 198 (by decide) (by decide), eb 205 (by decide) (by decide), eb 217 (by decide) (by decide), eb 218 (by decide) (by decide), eb 201 (by decide) (by decide), eb 200 (by decide) (by decide)]
        exact n4
  · refine pk_okP (v := -1) (I'' := up2 I 197 4 0) (L'' := L) hl ?_ ?_ FrC.rf (FrR.up (by decide)) hC.le (InvR.m4 ⟨⟨m1, m2, m3⟩, m4⟩ 0) hG.le
    · rw [c_feed hs a b c d e t2 t1, if_neg q]
    · unfold F_X12_feed
      rw [pi_197_4 hs, Option.bind_some, gi_197_6 hs, Option.bind_some, up2_row, up1_ne _ _ (by decide), m2, show nI tn + 20 = nI (tn + 20) from nI_add tn 20, if_neg (show ¬ nI (tn + 20) ≤ (900 : Int32) from ge_wide (a := tn + 20) (b := 900) (by omega) (by omega))]
