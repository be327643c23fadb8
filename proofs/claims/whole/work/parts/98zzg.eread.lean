/-! the reference reads a text -/
section E4
variable {Ls : Nat} {xs : Nat → Int32} {S : mkS} {L : mkL} {R : mkR} {n : Nat × Nat}
theorem e_124F (hs : St S R) {I : mkI} (h : ¬ I 197 12 = 0) : F_X12_exchange_124 mm_N (some 197) (mk S I L R n) = F_X12_exchange_145 (some 197) (mk S I L R n) := by
  obtain ⟨g, hg⟩ : ∃ g, mm_N = g + 1 := ⟨mm_N - 1, by unfold mm_N; omega⟩
  rw [hg]
  simp only [F_X12_exchange_124]
  rw [gi_197_12 hs, Option.bind_some, if_neg h]
theorem e_read (hs : St S R) {I : mkI} (hl : Low Ls xs S I R) {tb : Nat → Nat} {N : Nat} (hN : N ≤ 900) (hb : ∀ j, j < N → tb j < 256 ∧ I 202 j = nI (tb j)) (h7 : I 197 7 = nI N) (h8 : I 197 8 = 0) (h12 : I 197 12 = 0) (h16 : I 197 16 = 0) : ∃ I', F_X12_exchange_52 mm_N (some 197) 0 (mk S I L R n) = F_X12_exchange_145 (some 197) (mk S I' L R n) ∧ ETe (textP (tb, N) dr0) I' ∧ kNl I I' := by
  obtain ⟨-, -, -, -, -, -, -, -, -, -, -, s34, -⟩ := ws_same
  obtain ⟨I1, q1, q2, q3⟩ := e_zeroT (L := L) (n := n) hs 3205 mm_N 0 I rfl (by show 3205 < 1000000; omega) (fun i hi => absurd hi (Nat.not_lt_zero _))
  obtain ⟨I2, r1, r2, r3⟩ := e_wedT (L := L) (n := n) hs 8 mm_N 0 I1 rfl (by show 8 < 1000000; omega)
  rw [show F_X12_exchange_52 mm_N (some 197) 0 (mk S I L R n) = _ from q1, show F_X12_exchange_74 mm_N (some 197) 0 (mk S I1 L R n) = _ from r1]
  have k2 : kTl I I2 := fun x a => (r3 x a).trans (q3 x a)
  have km : I2 197 = I 197 := k2 _ (by decide)
  have hT : TpR tb N I2 := ⟨hN, by rw [km]; exact h7, fun j hj => by rw [k2 202 (by decide)]; exact hb j hj⟩
  obtain ⟨I3, t1, t2, t3⟩ := e_readsOn (L := L) (n := n) hs hT (Nat.zero_le _) (by rw [km]; exact h8)
  have hP : PN (Ls, xs, S, R) (tb, N) (lx tb N 0) I3 := ⟨hl.fr (fun _ _ => rfl) (fun a ha => (t3.1 a (by show a ≠ 197; omega)).trans (k2 a (by show a ≠ 199; omega))) (fun _ _ => rfl), t3.tp hT, t2, by rw [t3.2 12 (by omega), km]; exact h12, by rw [t3.2 16 (by omega), km]; exact h16⟩
  have hg : TKg tb N (lx tb N 0) := (lx_g (Nat.zero_le _)).1
  have hok := head_ok (B := (tb, N)) hg
  obtain ⟨I4, u1, u2, u3⟩ := e_mWord (L := L) (n := n) hs hP hg (a := 34) (by decide)
  rw [s34] at u2
  have kk4 : kNl I I4 := (k2.n.tr t3.b.n).tr u3.n
  obtain ⟨g, hg9⟩ : ∃ g, mm_N - 8 = g + 1 := ⟨mm_N - 9, by unfold mm_N; omega⟩
  rw [hg9]
  unfold textP
  simp only [F_X12_exchange_74]
  rw [if_pos (by decide), cv_197 hs, t1, Option.bind_some, cv_197 hs, u1, Option.bind_some, gr_197_1 hs, Option.bind_some, cv_197 hs]
  show ∃ I', _ ∧ ETe (dth (dth (headP (tb, N) dr0 (lx tb N 0)) (endP (tb, N))) fun t D => linesP (tb, N) 900 t D) I' ∧ _
  have flr1 : ∀ {e : Nat × Nat} {J : mkI} (v : Int32), FlR e J → FlR e (up2 J 199 1 v) := fun v h => ⟨by rw [up2_ne _ _ _ (by decide)]; exact h.1, by rw [up2_ne _ _ _ (by decide)]; exact h.2.1, h.2.2⟩
  have k1t : ∀ {J : mkI} (v : Int32), kNl J (up2 J 199 1 v) := fun v => kTl.n (fun y a => up2_ne _ _ _ a)
  have s1 : ∀ {J : mkI} (v : Int32), sI (mk S J L R n) (some 199) 0 (1 : Int32) v = some (mk S (up2 J 199 1 v) L R n) := fun v => si_199 (k := 1) hs (by omega)
  unfold headP wth at hok ⊢
  by_cases e : ¬ wB tb (lx tb N 0) (wsOf 3) = true
  · rw [if_neg e] at u2 ⊢
    have f := flr1 2 u2
    rw [e_numF hs u2.ne, b2_some, s1, Option.bind_some, cv_197 hs, e_stopF hs f.ne, Option.bind_some, e_124F hs f.ne]
    exact ⟨_, rfl, f, kk4.tr (k1t _)⟩
  have e := Classical.not_not.mp e
  rw [if_pos e] at u2 hok ⊢
  obtain ⟨p4, k4⟩ := u2
  have g4 := (nx_g (B := (tb, N)) hg).1
  obtain ⟨I5, v5, i1, i2, -, i3⟩ := e_num (L := L) (n := n) hs p4 g4 (lo := 2) (hi := 8) (by omega) (by omega) (e_un1 g4)
  have o5 := numP_ok (lo := 2) (hi := 8) (un := -1) g4
  rw [show F_X12_number (some 197) 2 8 (mk S I4 L R n) = _ from i1, b2_some, s1, Option.bind_some, cv_197 hs]
  have kk5 := (kk4.tr i3.n).tr (k1t v5)
  show ∃ I', _ ∧ ETe (dth (dth (nth (numP (tb, N) 2 8 (-1) (nx (tb, N) (lx tb N 0))) _) (endP (tb, N))) fun t D => linesP (tb, N) 900 t D) I' ∧ _
  have hok : DGo (tb, N) ((lx tb N 0).1 + 2) (nth (numP (tb, N) 2 8 (-1) (nx (tb, N) (lx tb N 0))) fun t2 x => .inr (t2, ((x, dM dr0, dT dr0), dr0.2))) := hok
  cases e2 : numP (tb, N) 2 8 (-1) (nx (tb, N) (lx tb N 0)) with
  | inl q =>
    rw [e2] at i2
    have i2 : FlR q I5 := i2
    have f := flr1 v5 i2
    rw [e_stopF hs f.ne, Option.bind_some, e_124F hs f.ne]
    exact ⟨_, rfl, f, kk5⟩
  | inr q =>
    obtain ⟨t5, x⟩ := q
    rw [e2] at i2 o5 hok
    obtain ⟨rfl, hx, p5, k5⟩ := i2
    have hok : DGo (tb, N) ((lx tb N 0).1 + 2) (.inr (t5, ((x, dM dr0, dT dr0), dr0.2))) := hok
    obtain ⟨J, hJ⟩ : ∃ J, J = up2 I5 199 1 (nI x) := ⟨_, rfl⟩
    have tt : I5 199 = I2 199 := by rw [k5.1 _ (by decide), k4.1 _ (by decide), t3.1 _ (by decide)]
    have rw0 : ∀ j, j ≠ 1 → j < 3205 → J 199 j = if 38 ≤ j ∧ j < 46 then -1 else 0 := fun j a b => by
      rw [hJ, up2_row, up1_ne _ _ a, tt, r2]
      by_cases e9 : 38 ≤ j ∧ j < 46
      · rw [if_pos e9, if_pos (by omega)]
      · rw [if_neg e9, if_neg (by omega), q2 j b]
    have hJD : DfR ((x, dM dr0, dT dr0), dr0.2) (J 199) := ⟨⟨by rw [rw0 _ (by omega) (by omega)]; rfl, by rw [hJ, up2_self], by rw [rw0 _ (by omega) (by omega)]; rfl⟩, ⟨by rw [rw0 _ (by omega) (by omega)]; rfl, fun k hk => absurd hk (Nat.not_lt_zero _)⟩, ⟨by rw [rw0 _ (by omega) (by omega)]; rfl, fun k hk => absurd hk (Nat.not_lt_zero _)⟩, ⟨fun l hl => by rw [rw0 _ (by omega) (by omega), if_pos (by omega)], by rw [rw0 _ (by omega) (by omega)]; rfl, by rw [rw0 _ (by omega) (by omega)]; rfl⟩, fun w hw => ⟨by rw [rw0 _ (by omega) (by omega), if_neg (by omega)]; rfl, fun j hj => absurd hj (Nat.not_lt_zero _)⟩⟩
    have pJ : PN (Ls, xs, S, R) (tb, N) t5 J := p5.tl (fun y a => by rw [hJ, up2_ne _ _ _ a])
    rw [← hJ] at kk5 ⊢
    obtain ⟨I6, y1, y2, y3⟩ := e_readStop (L := L) (n := n) hs pJ hJD hok.2.2 hok.1
    have ho6 := endP_ok hok.2.2 hok.1
    rw [y1, Option.bind_some]
    show ∃ I', _ ∧ ETe (dth (endP (tb, N) t5 ((x, dM dr0, dT dr0), dr0.2)) fun t D => linesP (tb, N) 900 t D) I' ∧ _
    cases e3 : endP (tb, N) t5 ((x, dM dr0, dT dr0), dr0.2) with
    | inl q =>
      rw [e3] at y2
      have y2 : FlR q I6 := y2
      rw [e_124F hs y2.ne]
      exact ⟨_, rfl, y2, kk5.tr y3⟩
    | inr q =>
      obtain ⟨t6, D6⟩ := q
      rw [e3] at y2 ho6
      obtain ⟨I7, z1, z2, z3⟩ := e_lines (L := L) (n := n) (B := (tb, N)) hs hN 900 mm_N t6 D6 I6 (by omega) (by show 900 + 1 < 1000000; omega) y2.1 y2.2 ho6.2.2 ho6.1
      rw [z1]
      exact ⟨I7, rfl, z2, (kk5.tr y3).tr z3⟩
end E4
