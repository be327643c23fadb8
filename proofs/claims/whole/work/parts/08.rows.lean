section MMA
variable {d : Nat} {y : MethodName} {cc : ByteArray} {nL : Nat} {ret : Option FieldType} {oz : String ⊕ Option Value} {hz : MH} {V : Nat → List (Nat × Value) → List Value → MH → Prop} {pc : Nat} {lv lv' : List (Nat × Value)} {st : List Value} {h h1 : MH} {r : Option Nat}
theorem mm_locs {G : mm_G} {a k : Nat} {locs : List Loc} (b1 : 128 ≤ a) (a2 : ∀ q ∈ locs, G.2.2.2.size ≤ q.base) : ∀ q ∈ locs ++ [⟨mm_ad G a, k⟩], G.2.2.2.size ≤ q.base := by
  intro q hq
  rcases List.mem_append.mp hq with h9 | h9
  · exact a2 q h9
  · rw [List.mem_singleton.mp h9]
    show _ ≤ mm_ad G a
    rw [mm_ad_hi b1]; omega
theorem mm_arrset {G : mm_G} {cA : ClassId} {n k : Nat} {f : Nat → Int32} {x : Int32} {H1 : Heap} {a : Nat} (e : H1[a]? = some ((vp_cell cA (n, .inl f)).setSlot k (.int x))) : H1[a]? = some (vp_cell cA (n, .inl (upd f k x))) := by
  rw [e, vp_cell_i, vp_cell_i, arrV_store]
  congr 2
  funext q
  by_cases hq : q = k
  · subst hq
    simp [updV, upd]
  · simp [updV, upd, hq]
theorem mm_iald (C : mm_C d y cc nL ret oz hz V) {i v : Int32} (hd : decode cc pc = .ok (.iaload, 1)) (hg : aI h r 0 i = some v) (kk : V (pc + 1) lv (.int v :: st) h) : V pc lv (.int i :: va_rf r :: st) h := by
  obtain ⟨a, n, f, rfl, ea, hin, rfl⟩ := aI_some hg
  obtain ⟨p, l, e, s, m, args, below, meth, c, h0, G, ⟨hsl, hx, hb, hml, hr, hlk, hown, hnm, htab⟩, hts, hSt, rfl⟩ := C
  intro H locs ls hls a1 a2 a3 a4
  obtain ⟨b1, b2⟩ := a1.hia ⟨by decide, by decide⟩ ea
  exact va_iald (D := G.1) (cl := mm_cl) (ws := [(mm_ad G a, .inl (G.2.1 0, n, .inl f))]) hx hb hSt.2.1 (a1.one b1 b2 (by rw [ea]; rfl)) 0 0 rfl rfl hin hd (kk H locs ls hls a1 a2 a3 a4)
theorem mm_zald (C : mm_C d y cc nL ret oz hz V) {i v : Int32} (hd : decode cc pc = .ok (.baload, 1)) (hg : aI h r 3 i = some v) (kk : V (pc + 1) lv (.int v :: st) h) : V pc lv (.int i :: va_rf r :: st) h := by
  obtain ⟨a, n, f, rfl, ea, hin, rfl⟩ := aI_some hg
  obtain ⟨p, l, e, s, m, args, below, meth, c, h0, G, ⟨hsl, hx, hb, hml, hr, hlk, hown, hnm, htab⟩, hts, hSt, rfl⟩ := C
  intro H locs ls hls a1 a2 a3 a4
  obtain ⟨b1, b2⟩ := a1.hia ⟨by decide, by decide⟩ ea
  exact va_zald (D := G.1) (cl := mm_cl) (ws := [(mm_ad G a, .inl (G.2.1 3, n, .inl f))]) hx hb hSt.2.1 (a1.one b1 b2 (by rw [ea]; rfl)) 0 3 rfl rfl hin hd (kk H locs ls hls a1 a2 a3 a4)
theorem mm_lald (C : mm_C d y cc nL ret oz hz V) {i : Int32} {v : Int64} (hd : decode cc pc = .ok (.laload, 1)) (hg : aL h r i = some v) (kk : V (pc + 1) lv (.long v :: st) h) : V pc lv (.int i :: va_rf r :: st) h := by
  obtain ⟨a, n, f, rfl, ea, hin, rfl⟩ := aL_some hg
  obtain ⟨p, l, e, s, m, args, below, meth, c, h0, G, ⟨hsl, hx, hb, hml, hr, hlk, hown, hnm, htab⟩, hts, hSt, rfl⟩ := C
  intro H locs ls hls a1 a2 a3 a4
  obtain ⟨b1, b2⟩ := a1.hia ⟨by decide, by decide⟩ ea
  exact va_lald (D := G.1) (cl := mm_cl) (ws := [(mm_ad G a, .inl (G.2.1 1, n, .inr (.inl f)))]) hx hb hSt.2.1 (a1.one b1 b2 (by rw [ea]; rfl)) 0 1 rfl rfl hin hd (kk H locs ls hls a1 a2 a3 a4)
theorem mm_aald (C : mm_C d y cc nL ret oz hz V) {t : Nat} {E : String} {i : Int32} {v : Option Nat} (ht : ∀ G : mm_G, (mm_tys G)[t]? = some (G.2.1 t, .object E)) (ht2 : t ≠ 2 ∧ t ≠ 7) (hd : decode cc pc = .ok (.aaload, 1)) (hg : aR h r t i = some v) (kk : V (pc + 1) lv (va_rf v :: st) h) : V pc lv (.int i :: va_rf r :: st) h := by
  obtain ⟨a, n, f, rfl, ea, hin, rfl⟩ := aR_some hg
  obtain ⟨p, l, e, s, m, args, below, meth, c, h0, G, ⟨hsl, hx, hb, hml, hr, hlk, hown, hnm, htab⟩, hts, hSt, rfl⟩ := C
  intro H locs ls hls a1 a2 a3 a4
  obtain ⟨b1, b2⟩ := a1.hia ht2 ea
  have k9 := kk H locs ls hls a1 a2 a3 a4
  rw [List.map_cons, mm_v_rf] at k9
  exact va_aldq (D := G.1) (cl := mm_cl) (ws := [(mm_ad G a, .inl (G.2.1 t, n, .inr (.inr (.inr (.inr (fun j => (f j).map (mm_ad G)))))))]) hx hb hSt.2.1 (a1.one b1 b2 (by rw [ea]; rfl)) 0 t rfl (ht G) hin hd k9
theorem mm_strT {G : mm_G} {s : State} {H : Heap} (hK : mm_K G s) (hR : mm_R G h H) {a t n : Nat} {f : (Nat → Int32) ⊕ (Nat → Int64) ⊕ (Nat → Option Nat)} (ha : a < 128) (ht7 : t ≠ 7) (ea : h.1 a = .inl (t, n, f)) : ∃ g : Nat → Int32, f = .inl g ∧ t = 2 ∧ va_T .byte (mm_ad G a) n (fun j => .int (g j)) (mm_A G) s H := by
  rw [hR.lo ha (by rw [ea]; intro n f z; cases z; exact ht7 rfl)] at ea
  obtain ⟨-, h2, h3, h4, -, -⟩ := hR
  obtain ⟨q1, q2, q3, q4, q5⟩ := mm_ext_arr ea
  have := (hK.2.1 (a - 64) (by omega)).2.2.2
  rw [show 64 + (a - 64) = a by omega] at this
  refine ⟨_, q5, q1, ?_⟩
  rw [q4]
  unfold mm_ad
  rw [if_pos ha]
  exact this.kept (fun q g1 g2 => h3 q g1)
theorem mm_scr {G : mm_G} {H : Heap} (hR : mm_R G h H) {a n : Nat} {f : (Nat → Int32) ⊕ (Nat → Int64) ⊕ (Nat → Option Nat)} (ha : a < 128) (ea : h.1 a = .inl (7, n, f)) : ∃ (L : Nat) (xs : Nat → Int32), (f = .inl xs) ∧ ∃ scr : Cell, H[mm_ad G a]? = some scr ∧ scr.vm ≠ .unknown ∧ scr.slots.size = n ∧ (∀ j : Nat, j < n → scr.slots[j]? = some (.int (xs j))) ∧ G.2.2.2[G.2.2.1 121]? = some scr := by
  obtain ⟨h1, h2, h3, h4, h5, h6⟩ := hR
  rcases h4 a ha with h9 | ⟨rfl, L, xs, h9, scr, s1, s2, s3, s4⟩
  · rw [ea] at h9
    exact absurd (mm_ext_arr h9.symm).1 (by decide)
  · rw [ea] at h9
    cases h9
    have hlt : G.2.2.1 121 < G.2.2.2.size := (Array.getElem?_eq_some_iff.mp s1).1
    refine ⟨n, xs, rfl, scr, ?_, s2, s3, s4, s1⟩
    unfold mm_ad
    rw [if_pos ha, h3 _ hlt]
    exact s1
theorem mm_bald (C : mm_C d y cc nL ret oz hz V) {i v : Int32} (hd : decode cc pc = .ok (.baload, 1)) (hg : aI h r 2 i = some v) (kk : V (pc + 1) lv (.int v :: st) h) : V pc lv (.int i :: va_rf r :: st) h := by
  obtain ⟨a, n, f, rfl, ea, hin, rfl⟩ := aI_some hg
  obtain ⟨p, l, e, s, m, args, below, meth, c, h0, G, ⟨hsl, hx, hb, hml, hr, hlk, hown, hnm, htab⟩, hts, hSt, rfl⟩ := C
  intro H locs ls hls a1 a2 a3 a4
  have k9 := kk H locs ls hls a1 a2 a3 a4
  by_cases ha : a < 128
  · obtain ⟨g, e1, -, cell, t1, t2, t3, t4, t5, t6, t7⟩ := mm_strT hSt.2 a1 ha (by decide) ea
    cases e1
    have hlt : i.toNatClampNeg < n := Nat.not_le.mp fun q => hin (Or.inr q)
    exact W.bald hx hb t1 t2 t3 (fun z => z.elim (fun z => hin (Or.inl z)) (fun z => by omega)) (v := .int (f i.toNatClampNeg)) (t6 _ hlt) rfl rfl hd k9
  · have b2 := a1.lt (a := a) (by rw [ea]; intro z; cases z)
    exact va_bald (D := G.1) (cl := mm_cl) (ws := [(mm_ad G a, .inl (G.2.1 2, n, .inl f))]) hx hb hSt.2.1 (a1.one (Nat.not_lt.mp ha) b2 (by rw [ea]; rfl)) 0 2 rfl rfl hin hd k9
theorem mm_alen (C : mm_C d y cc nL ret oz hz V) {v : Int32} (hd : decode cc pc = .ok (.arraylength, 1)) (hg : aN h r = some v) (ht : ∀ a t n f, r = some a → h.1 a = .inl (t, n, f) → t = 0 ∨ t = 2) (kk : V (pc + 1) lv (.int v :: st) h) : V pc lv (va_rf r :: st) h := by
  obtain ⟨a, t, n, f, rfl, ea, rfl⟩ := aN_some hg
  obtain ⟨p, l, e, s, m, args, below, meth, c, h0, G, ⟨hsl, hx, hb, hml, hr, hlk, hown, hnm, htab⟩, hts, hSt, rfl⟩ := C
  intro H locs ls hls a1 a2 a3 a4
  have k9 := kk H locs ls hls a1 a2 a3 a4
  by_cases ha : a < 128
  · obtain ⟨g, e1, -, cell, t1, t2, t3, t4, t5, t6, t7⟩ := mm_strT hSt.2 a1 ha (by rcases ht a t n f rfl ea with rfl | rfl <;> decide) ea
    exact W.alen hx hb t1 t2 t5 rfl rfl hd k9
  · have b2 := a1.lt (a := a) (by rw [ea]; intro z; cases z)
    have b1 := Nat.not_lt.mp ha
    obtain ⟨x, hx1⟩ : ∃ x : vp_A, mm_e G (h.1 a) = some (.inl (G.2.1 t, x)) ∧ x.1 = n := by
      rw [ea]
      rcases f with f | f | f
      · exact ⟨(n, .inl f), rfl, rfl⟩
      · exact ⟨(n, .inr (.inl f)), rfl, rfl⟩
      · exact ⟨(n, .inr (.inr (.inr (.inr (fun j => (f j).map (mm_ad G)))))), rfl, rfl⟩
    rcases ht a t n f rfl ea with rfl | rfl
    · exact va_alen (D := G.1) (cl := mm_cl) (ws := [(mm_ad G a, .inl (G.2.1 0, x))]) hx hb hSt.2.1 (a1.one b1 b2 hx1.1) 0 0 rfl (ty := .int) rfl (by rw [hx1.2]) hd k9
    · exact va_alen (D := G.1) (cl := mm_cl) (ws := [(mm_ad G a, .inl (G.2.1 2, x))]) hx hb hSt.2.1 (a1.one b1 b2 hx1.1) 0 2 rfl (ty := .byte) rfl (by rw [hx1.2]) hd k9
/-- length of a row of a told type -/
def aNt (h : MH) (r : Option Nat) (t : Nat) : Option Int32 := match r with
  | none => none
  | some a => match h.1 a with
    | .inl (t', n, _) => if t' = t then some (Int32.ofNat n) else none
    | _ => none
theorem aNt_some {t : Nat} {v : Int32} (q : aNt h r t = some v) : aN h r = some v ∧ ∀ a t' n f, r = some a → h.1 a = .inl (t', n, f) → t' = t := by
  unfold aNt at q
  repeat' split at q
  all_goals first | cases q; done | skip
  rename_i a _ t' n f e hc
  subst hc
  cases q
  refine ⟨by simp [aN, e], fun b t2 n2 f2 hb e2 => ?_⟩
  cases hb
  rw [e] at e2
  cases e2
  rfl
theorem mm_alenI (C : mm_C d y cc nL ret oz hz V) {v : Int32} (hd : decode cc pc = .ok (.arraylength, 1)) (hg : aNt h r 0 = some v) (kk : V (pc + 1) lv (.int v :: st) h) : V pc lv (va_rf r :: st) h := mm_alen C hd (aNt_some hg).1 (fun a t n f q1 q2 => Or.inl ((aNt_some hg).2 a t n f q1 q2)) kk
theorem mm_alenB (C : mm_C d y cc nL ret oz hz V) {v : Int32} (hd : decode cc pc = .ok (.arraylength, 1)) (hg : aNt h r 2 = some v) (kk : V (pc + 1) lv (.int v :: st) h) : V pc lv (va_rf r :: st) h := mm_alen C hd (aNt_some hg).1 (fun a t n f q1 q2 => Or.inr ((aNt_some hg).2 a t n f q1 q2)) kk
theorem mm_alenJ (C : mm_C d y cc nL ret oz hz V) {v : Int32} (hd : decode cc pc = .ok (.arraylength, 1)) (hg : aNt h r 1 = some v) (kk : V (pc + 1) lv (.int v :: st) h) : V pc lv (va_rf r :: st) h := by
  obtain ⟨hg1, ht⟩ := aNt_some hg
  obtain ⟨a, t, n, f, rfl, ea, rfl⟩ := aN_some hg1
  have ht1 := ht a t n f rfl ea
  subst ht1
  obtain ⟨p, l, e, s, m, args, below, meth, c, h0, G, ⟨hsl, hx, hb, hml, hr, hlk, hown, hnm, htab⟩, hts, hSt, rfl⟩ := C
  intro H locs ls hls a1 a2 a3 a4
  have k9 := kk H locs ls hls a1 a2 a3 a4
  obtain ⟨b1, b2⟩ := a1.hia ⟨by decide, by decide⟩ ea
  obtain ⟨x, hx1⟩ : ∃ x : vp_A, mm_e G (h.1 a) = some (.inl (G.2.1 1, x)) ∧ x.1 = n := by
    rw [ea]
    rcases f with f | f | f
    · exact ⟨(n, .inl f), rfl, rfl⟩
    · exact ⟨(n, .inr (.inl f)), rfl, rfl⟩
    · exact ⟨(n, .inr (.inr (.inr (.inr (fun j => (f j).map (mm_ad G)))))), rfl, rfl⟩
  exact va_alen (D := G.1) (cl := mm_cl) (ws := [(mm_ad G a, .inl (G.2.1 1, x))]) hx hb hSt.2.1 (a1.one b1 b2 hx1.1) 0 1 rfl (ty := .long) rfl (by rw [hx1.2]) hd k9
theorem mm_iast (C : mm_C d y cc nL ret oz hz V) {i x : Int32} (hd : decode cc pc = .ok (.iastore, 1)) (hg : sI h r 0 i x = some h1) (kk : V (pc + 1) lv st h1) : V pc lv (.int x :: .int i :: va_rf r :: st) h := by
  obtain ⟨a, n, f, rfl, ea, hin, b1, rfl⟩ := sI_some hg
  obtain ⟨p, l, e, s, m, args, below, meth, c, h0, G, ⟨hsl, hx, hb, hml, hr, hlk, hown, hnm, htab⟩, hts, hSt, rfl⟩ := C
  intro H locs ls hls a1 a2 a3 a4
  obtain ⟨b1, b2⟩ := a1.hia ⟨by decide, by decide⟩ ea
  refine W.iast hx hb (a1.at b1 b2 (e := .inl (G.2.1 0, n, .inl f)) (by rw [ea]; rfl)) ((hSt.2.1.2 0 _ rfl).1 n (fun j => .int (f j))) (fun q => by cases q) (by show ¬ (i < 0 ∨ (arrV _ _ _).slots.size ≤ _); rw [arrV_size]; exact hin) rfl rfl hd fun H1 e z oq => ?_
  exact kk H1 _ ls hls (a1.set b1 b2 z oq (fun e9 he9 => by cases he9; exact mm_arrset (G := G) e)) (mm_locs b1 a2) a3 a4
theorem mm_bast (C : mm_C d y cc nL ret oz hz V) {i x : Int32} (hd : decode cc pc = .ok (.bastore, 1)) (hg : sI h r 2 i x.toInt8.toInt32 = some h1) (kk : V (pc + 1) lv st h1) : V pc lv (.int x :: .int i :: va_rf r :: st) h := by
  obtain ⟨a, n, f, rfl, ea, hin, b1, rfl⟩ := sI_some hg
  obtain ⟨p, l, e, s, m, args, below, meth, c, h0, G, ⟨hsl, hx, hb, hml, hr, hlk, hown, hnm, htab⟩, hts, hSt, rfl⟩ := C
  intro H locs ls hls a1 a2 a3 a4
  have b2 := a1.lt (a := a) (by rw [ea]; intro z; cases z)
  refine W.bast hx hb (a1.at b1 b2 (e := .inl (G.2.1 2, n, .inl f)) (by rw [ea]; rfl)) ((hSt.2.1.2 2 _ rfl).1 n (fun j => .int (f j))) (fun q => by cases q) (by show ¬ (i < 0 ∨ (arrV _ _ _).slots.size ≤ _); rw [arrV_size]; exact hin) rfl rfl hd fun H1 e z oq => ?_
  exact kk H1 _ ls hls (a1.set b1 b2 z oq (fun e9 he9 => by cases he9; exact mm_arrset (G := G) e)) (mm_locs b1 a2) a3 a4
def sZ (h : MH) (r : Option Nat) (i x : Int32) : Option MH := if x = 0 ∨ x = 1 then sI h r 3 i x else none
theorem mm_zast (C : mm_C d y cc nL ret oz hz V) {i x : Int32} (hd : decode cc pc = .ok (.bastore, 1)) (hg : sZ h r i x = some h1) (kk : V (pc + 1) lv st h1) : V pc lv (.int x :: .int i :: va_rf r :: st) h := by
  unfold sZ at hg
  split at hg
  case isFalse => cases hg
  rename_i hx01
  obtain ⟨a, n, f, rfl, ea, hin, b1, rfl⟩ := sI_some hg
  obtain ⟨p, l, e, s, m, args, below, meth, c, h0, G, ⟨hsl, hx, hb, hml, hr, hlk, hown, hnm, htab⟩, hts, hSt, rfl⟩ := C
  intro H locs ls hls a1 a2 a3 a4
  obtain ⟨b1, b2⟩ := a1.hia ⟨by decide, by decide⟩ ea
  refine W.zast hx hb (a1.at b1 b2 (e := .inl (G.2.1 3, n, .inl f)) (by rw [ea]; rfl)) ((hSt.2.1.2 3 _ rfl).1 n (fun j => .int (f j))) (fun q => by cases q) (by show ¬ (i < 0 ∨ (arrV _ _ _).slots.size ≤ _); rw [arrV_size]; exact hin) rfl rfl hd fun H1 e z oq => ?_
  refine kk H1 _ ls hls (a1.set b1 b2 z oq (fun e9 he9 => ?_)) (mm_locs b1 a2) a3 a4
  cases he9
  rcases hx01 with rfl | rfl <;> exact mm_arrset (G := G) e
theorem mm_last (C : mm_C d y cc nL ret oz hz V) {i : Int32} {x : Int64} (hd : decode cc pc = .ok (.lastore, 1)) (hg : sL h r i x = some h1) (kk : V (pc + 1) lv st h1) : V pc lv (.long x :: .int i :: va_rf r :: st) h := by
  obtain ⟨a, n, f, rfl, ea, hin, b1, rfl⟩ := sL_some hg
  obtain ⟨p, l, e, s, m, args, below, meth, c, h0, G, ⟨hsl, hx, hb, hml, hr, hlk, hown, hnm, htab⟩, hts, hSt, rfl⟩ := C
  intro H locs ls hls a1 a2 a3 a4
  obtain ⟨b1, b2⟩ := a1.hia ⟨by decide, by decide⟩ ea
  refine W.last hx hb (a1.at b1 b2 (e := .inl (G.2.1 1, n, .inr (.inl f))) (by rw [ea]; rfl)) ((hSt.2.1.2 1 _ rfl).1 n (fun j => .long (f j))) (fun q => by cases q) (by show ¬ (i < 0 ∨ (arrV _ _ _).slots.size ≤ _); rw [arrV_size]; exact hin) rfl rfl hd fun H1 e z oq => ?_
  refine kk H1 _ ls hls (a1.set b1 b2 z oq (fun e9 he9 => ?_)) (mm_locs b1 a2) a3 a4
  cases he9
  show H1[_]? = some (vp_cell _ _)
  rw [e, show (vp_cell (G.2.1 1) (n, Sum.inr (Sum.inl f))) = arrV (G.2.1 1) n (fun j => .long (f j)) from rfl, vp_cell_l, arrV_store]
  congr 2
  funext q
  by_cases hq : q = i.toNatClampNeg
  · subst hq
    simp [updV, vp_updL]
  · simp [updV, vp_updL, hq]
theorem mm_aast (C : mm_C d y cc nL ret oz hz V) {t ci : Nat} {i : Int32} {v : Option Nat} {q9 : vw_C} (ht : ∀ G : mm_G, (mm_tys G)[t]? = some (G.2.1 t, .object q9.1)) (ht2 : t ≠ 2 ∧ t ≠ 7) (hci : ci ≠ 13) (hc : mm_cl[ci]? = some q9) (hd : decode cc pc = .ok (.aastore, 1)) (hg : sR h r t ci i v = some h1) (kk : V (pc + 1) lv st h1) : V pc lv (va_rf v :: .int i :: va_rf r :: st) h := by
  obtain ⟨a, b, n, f, fs, rfl, rfl, ea, eb, hin, b1, rfl⟩ := sR_some hg
  obtain ⟨p, l, e, s, m, args, below, meth, c, h0, G, ⟨hsl, hx, hb, hml, hr, hlk, hown, hnm, htab⟩, hts, hSt, rfl⟩ := C
  intro H locs ls hls a1 a2 a3 a4
  obtain ⟨b1, b2⟩ := a1.hia ht2 ea
  obtain ⟨b3, b4⟩ := a1.hi hci eb
  have hK := hSt.2.1
  have hlt : i.toNatClampNeg < n := Nat.not_le.mp fun q => hin (Or.inr q)
  have h0' : ¬ i < 0 := fun q => hin (Or.inl q)
  obtain ⟨r', hr', cellV, g1, g2, g3, -⟩ := a1.at b3 b4 (e := .inr (ci, fs.map (mm_v G))) (by rw [eb]; rfl)
  have hcls := (hK.1 ci q9 hc).2
  obtain ⟨kA, comp, k1, k2, k3, -⟩ := (hK.2 t _ (ht G)).2
  have hcomp : comp = G.1.1 ci := Option.some.inj (k3.symm.trans hcls.1)
  subst hcomp
  obtain ⟨kC, hkC, -⟩ := hcls.2
  refine W.aast hx hb (a1.at b1 b2 (e := .inl (G.2.1 t, n, .inr (.inr (.inr (.inr (fun j => (f j).map (mm_ad G))))))) (by rw [ea]; rfl)) (fun q h => by cases h) (fun h => by cases h) k1 k2 rfl hkC ⟨h0', by show _ < (arrV _ _ _).slots.size; rw [arrV_size]; exact hlt⟩ g1 (fun q h => by rw [g3] at h; cases h) (by rw [g2]; exact hkC) (by rw [g2]; exact va_assign hcls) rfl rfl hd fun H1 e z oq => ?_
  refine kk H1 _ ls hls (a1.set b1 b2 z oq (fun e9 he9 => ?_)) (mm_locs b1 a2) a3 a4
  cases he9
  show H1[_]? = some (vp_cell _ _)
  rw [e]
  show some ((arrV (G.2.1 t) n fun j => va_rf (Option.map (mm_ad G) (f j))).setSlot i.toNatClampNeg (Value.ref (mm_ad G b))) = some (arrV (G.2.1 t) n fun j => va_rf (Option.map (mm_ad G) (va_up f i.toNatClampNeg (some b) j)))
  rw [arrV_store]
  congr 2
  funext q
  by_cases hq : q = i.toNatClampNeg
  · subst hq
    simp [updV, va_up, va_rf]
  · simp [updV, va_up, hq]
theorem mm_new (C : mm_C d y cc nL ret oz hz V) {R : String} {T : u_T} {N ci idx : Nat} {fs : List Value} (hin : ∀ w ∈ u_ws R T N, w ∈ lw_good) (ty0 : Nat → FieldType) (hty : ∀ k, k < N → parseFieldDescriptor (T k).2.2.1 = some (ty0 k)) (hc : mm_cl[ci]? = some (R, T, N)) (hw1 : Cond.classLink y.cls idx R ∈ lw_good) (hw2 : Cond.instantiable R N ∈ lw_good) (hw3 : Cond.initialized R ∈ lw_good) (hfs : ∀ j, j < N → defaultValue (ty0 j) = vp_V fs j) (hfm : ∀ G : mm_G, fs.map (mm_v G) = fs) (hd : decode cc pc = .ok (.new idx, 3)) (hg : nO h ci fs N = some (r, h1)) (kk : V (pc + 3) lv (va_rf r :: st) h1) : V pc lv st h := by
  obtain ⟨c1, c2, rfl, rfl⟩ := hN_some hg
  obtain ⟨p, l, e, s, m, args, below, meth, c, h0, G, ⟨hsl, hx, hb, hml, hr, hlk, hown, hnm, htab⟩, hts, hSt, rfl⟩ := C
  intro H locs ls hls a1 a2 a3 a4
  have hKn := hSt.2.1.1 ci _ hc
  have q1 : (mm_rm d h0).cells = mm_capC - h0.2.1 := rfl
  have q2 : (mm_rm d h0).slots = mm_capS - h0.2.2 := rfl
  refine W.newcK hx hb hown (hts _ hw1) (hts _ hw2) (hts _ hw3) rfl hd (by rw [q1]; omega) (by rw [q2]; omega) hKn.2.1 rfl fun H1 kC hkC e1 z1 o1 => ?_
  have hsz := a1.2.1
  have hlo := a1.1.1
  refine W.cs (cells' := h.2.1 + 1 - h0.2.1) (slots' := h.2.2 + N - h0.2.2) (by omega) (by omega) ?_
  have k9 := kk H1 locs ls hls (a1.push ⟨c1, c2⟩ z1 o1 (fun e9 he9 => by
    cases he9
    exact ⟨_, hc, (u_born ty0 hts hin hKn hkC e1 hty).to (by rw [hfm G]; exact hfs)⟩)) a2 (Nat.le_succ_of_le a3) (Nat.le_trans a4 (Nat.le_add_right _ _))
  have e2 : mm_v G (va_rf (some h.2.1)) = .ref H.size := by
    show Value.ref (mm_ad G h.2.1) = _
    rw [mm_ad_hi hlo, hsz]
  rw [List.map_cons, e2] at k9
  exact k9
theorem mm_newa (C : mm_C d y cc nL ret oz hz V) {n : Int32} {at_ : ArrayType} {ty : FieldType} (t : Nat) {x : mm_Cl} {x9 : vp_A} (hty : newarray.typeOf at_ = ty) (hw : Cond.arrayClass ty ∈ lw_good) (ht : ∀ G : mm_G, (mm_tys G)[t]? = some (G.2.1 t, ty)) (hra : ∀ (U : State) (cA : ClassId), va_RA U cA ty → U.vm.findClass ("[" ++ ty.toString) = some cA) (hn : ¬ n < 0) (hcb : componentBytes ty ≤ 8) (hxe : ∀ G : mm_G, mm_e G x = some (.inl (G.2.1 t, x9))) (hx9 : ∀ cA : ClassId, vp_cell cA x9 = arrV cA n.toNatClampNeg (fun _ => defaultValue ty)) (hd : decode cc pc = .ok (.newarray at_, 2)) (hg : hN h x n.toNatClampNeg = some (r, h1)) (kk : V (pc + 2) lv (va_rf r :: st) h1) : V pc lv (.int n :: st) h := by
  obtain ⟨c1, c2, rfl, rfl⟩ := hN_some hg
  obtain ⟨p, l, e, s, m, args, below, meth, c, h0, G, ⟨hsl, hx, hb, hml, hr, hlk, hown, hnm, htab⟩, hts, hSt, rfl⟩ := C
  intro H locs ls hls a1 a2 a3 a4
  subst hty
  have q1 : (mm_rm d h0).cells = mm_capC - h0.2.1 := rfl
  have q2 : (mm_rm d h0).slots = mm_capS - h0.2.2 := rfl
  have hcap : n.toNatClampNeg ≤ 7293034 := by have : mm_capS = 7293034 := rfl; omega
  refine va_newaK hx hb (hts _ hw) rfl hd rfl hn rfl (Nat.le_trans (Nat.mul_le_mul hcap hcb) (by decide)) (by rw [q1]; omega) (by rw [q2]; omega) rfl fun H1 cA e1 z1 o1 hAr hNm => ?_
  have hcA : cA = G.2.1 t := Option.some.inj (hNm.symm.trans (hra s _ (hSt.2.1.2 t _ (ht G)).2))
  subst hcA
  have hsz := a1.2.1
  have hlo := a1.1.1
  refine W.cs (cells' := h.2.1 + 1 - h0.2.1) (slots' := h.2.2 + n.toNatClampNeg - h0.2.2) (by omega) (by omega) ?_
  have k9 := kk H1 locs ls hls (a1.push ⟨c1, c2⟩ z1 o1 (fun e9 he9 => by
    rw [hxe G] at he9
    cases he9
    show H1[H.size]? = some (vp_cell _ _)
    rw [hx9]
    exact e1)) a2 (Nat.le_succ_of_le a3) (Nat.le_trans a4 (Nat.le_add_right _ _))
  have e2 : mm_v G (va_rf (some h.2.1)) = .ref H.size := by
    show Value.ref (mm_ad G h.2.1) = _
    rw [mm_ad_hi hlo, hsz]
  rw [List.map_cons, e2] at k9
  exact k9
theorem nI__some {t : Nat} {n : Int32} (q : nI_ h t n = some (r, h1)) : ¬ n < 0 ∧ hN h (.inl (t, n.toNatClampNeg, .inl (fun _ => 0))) n.toNatClampNeg = some (r, h1) := by
  unfold nI_ at q
  split at q
  · cases q
  · rename_i hn; exact ⟨hn, q⟩
theorem mm_newI (C : mm_C d y cc nL ret oz hz V) {n : Int32} (hw : Cond.arrayClass .int ∈ lw_good) (hd : decode cc pc = .ok (.newarray .int, 2)) (hg : nI_ h 0 n = some (r, h1)) (kk : V (pc + 2) lv (va_rf r :: st) h1) : V pc lv (.int n :: st) h := mm_newa C 0 (at_ := .int) (ty := .int) (x9 := (n.toNatClampNeg, .inl (fun _ => 0))) rfl hw (fun _ => rfl) (fun _ _ q => q) (nI__some hg).1 (by decide) (fun _ => rfl) (fun _ => rfl) hd (nI__some hg).2 kk
theorem mm_newB (C : mm_C d y cc nL ret oz hz V) {n : Int32} (hw : Cond.arrayClass .byte ∈ lw_good) (hd : decode cc pc = .ok (.newarray .byte, 2)) (hg : nI_ h 2 n = some (r, h1)) (kk : V (pc + 2) lv (va_rf r :: st) h1) : V pc lv (.int n :: st) h := mm_newa C 2 (at_ := .byte) (ty := .byte) (x9 := (n.toNatClampNeg, .inl (fun _ => 0))) rfl hw (fun _ => rfl) (fun _ _ q => q) (nI__some hg).1 (by decide) (fun _ => rfl) (fun _ => rfl) hd (nI__some hg).2 kk
theorem mm_newZ (C : mm_C d y cc nL ret oz hz V) {n : Int32} (hw : Cond.arrayClass .boolean ∈ lw_good) (hd : decode cc pc = .ok (.newarray .boolean, 2)) (hg : nI_ h 3 n = some (r, h1)) (kk : V (pc + 2) lv (va_rf r :: st) h1) : V pc lv (.int n :: st) h := mm_newa C 3 (at_ := .boolean) (ty := .boolean) (x9 := (n.toNatClampNeg, .inl (fun _ => 0))) rfl hw (fun _ => rfl) (fun _ _ q => q) (nI__some hg).1 (by decide) (fun _ => rfl) (fun _ => rfl) hd (nI__some hg).2 kk
theorem mm_newJ (C : mm_C d y cc nL ret oz hz V) {n : Int32} (hw : Cond.arrayClass .long ∈ lw_good) (hd : decode cc pc = .ok (.newarray .long, 2)) (hg : nL_ h n = some (r, h1)) (kk : V (pc + 2) lv (va_rf r :: st) h1) : V pc lv (.int n :: st) h := by
  unfold nL_ at hg
  split at hg
  · cases hg
  · rename_i hn
    exact mm_newa C 1 (at_ := .long) (ty := .long) (x9 := (n.toNatClampNeg, .inr (.inl (fun _ => 0)))) rfl hw (fun _ => rfl) (fun _ _ q => q) hn (by decide) (fun _ => rfl) (fun _ => rfl) hd hg kk
theorem mm_anew (C : mm_C d y cc nL ret oz hz V) {n : Int32} {E : String} {idx : Nat} (t : Nat) (hw1 : Cond.classLink y.cls idx E ∈ lw_good) (hw2 : Cond.arrayOver (.object E) ∈ mm_nw) (ht : ∀ G : mm_G, (mm_tys G)[t]? = some (G.2.1 t, .object E)) (hd : decode cc pc = .ok (.anewarray idx, 3)) (hg : nR_ h t n = some (r, h1)) (kk : V (pc + 3) lv (va_rf r :: st) h1) : V pc lv (.int n :: st) h := by
  unfold nR_ at hg
  split at hg
  · cases hg
  rename_i hn
  obtain ⟨c1, c2, rfl, rfl⟩ := hN_some hg
  obtain ⟨p, l, e, s, m, args, below, meth, c, h0, G, ⟨hsl, hx, hb, hml, hr, hlk, hown, hnm, htab⟩, hts, hSt, rfl⟩ := C
  intro H locs ls hls a1 a2 a3 a4
  have q1 : (mm_rm d h0).cells = mm_capC - h0.2.1 := rfl
  have q2 : (mm_rm d h0).slots = mm_capS - h0.2.2 := rfl
  have hcap : n.toNatClampNeg ≤ 7293034 := by have : mm_capS = 7293034 := rfl; omega
  refine W.anew hx hb hown (hts _ hw1) (va_AO.use (hSt.2.2.2.2.2.2.2.2.1 _ hw2)) rfl hd rfl hn (by omega) (by rw [q1]; omega) (by rw [q2]; omega) fun cA kA comp k1 k2 k3 k4 => ?_
  have hcA : cA = G.2.1 t := by
    obtain ⟨_, _, -, -, -, k5⟩ := (hSt.2.1.2 t _ (ht G)).2
    exact Option.some.inj (k1.symm.trans k5)
  subst hcA
  have hsz := a1.2.1
  have hlo := a1.1.1
  refine W.cs (cells' := h.2.1 + 1 - h0.2.1) (slots' := h.2.2 + n.toNatClampNeg - h0.2.2) (by omega) (by omega) ?_
  have k9 := kk (H.push { cls := G.2.1 t, slots := Array.replicate n.toNatClampNeg .null, vm := .none }) locs ls hls (a1.push ⟨c1, c2⟩ (by simp) (fun q hq => by rw [Array.getElem?_push, if_neg (Nat.ne_of_lt hq)]) (fun e9 he9 => by
    cases he9
    show (H.push _)[H.size]? = some (vp_cell _ _)
    rw [vp_cell_q]
    simp only [Array.getElem?_push_size, Option.some.injEq, arrV, Cell.mk.injEq, true_and, and_true]
    apply Array.ext
    · simp
    · intro i _ _
      simp [va_rf])) a2 (Nat.le_succ_of_le a3) (Nat.le_trans a4 (Nat.le_add_right _ _))
  have e2 : mm_v G (va_rf (some h.2.1)) = .ref H.size := by
    show Value.ref (mm_ad G h.2.1) = _
    rw [mm_ad_hi hlo, hsz]
  rw [List.map_cons, e2] at k9
  exact k9
/-- the script's places -/
def aS (h : MH) (r : Option Nat) (i : Int32) : Option Int32 := if r = some 121 then aI h r 7 i else none
def aSN (h : MH) (r : Option Nat) : Option Int32 := if r = some 121 then aNt h r 7 else none
theorem mm_sald (C : mm_C d y cc nL ret oz hz V) {i v : Int32} (hd : decode cc pc = .ok (.iaload, 1)) (hg : aS h r i = some v) (kk : V (pc + 1) lv (.int v :: st) h) : V pc lv (.int i :: va_rf r :: st) h := by
  unfold aS at hg
  split at hg
  case isFalse => cases hg
  rename_i hr9
  obtain ⟨a, n, f, rfl, ea, hin, rfl⟩ := aI_some hg
  cases hr9
  obtain ⟨p, l, e, s, m, args, below, meth, c, h0, G, ⟨hsl, hx, hb, hml, hr, hlk, hown, hnm, htab⟩, hts, hSt, rfl⟩ := C
  intro H locs ls hls a1 a2 a3 a4
  have k9 := kk H locs ls hls a1 a2 a3 a4
  obtain ⟨L, xs, e1, scr, t1, t2, t3, t4, ha⟩ := mm_scr a1 (by decide) ea
  cases e1
  have hlt : i.toNatClampNeg < n := Nat.not_le.mp fun q => hin (Or.inr q)
  exact W.iald hx hb t1 (hSt.2.2.2.2.2.2.2.2.2 scr ha) t2 (by rw [t3]; exact hin) (v := .int (f i.toNatClampNeg)) (t4 _ hlt) rfl rfl hd k9
theorem mm_slen (C : mm_C d y cc nL ret oz hz V) {v : Int32} (hd : decode cc pc = .ok (.arraylength, 1)) (hg : aSN h r = some v) (kk : V (pc + 1) lv (.int v :: st) h) : V pc lv (va_rf r :: st) h := by
  unfold aSN at hg
  split at hg
  case isFalse => cases hg
  rename_i hr9
  obtain ⟨hg1, ht⟩ := aNt_some hg
  obtain ⟨a, t, n, f, rfl, ea, rfl⟩ := aN_some hg1
  have ht1 := ht a t n f rfl ea
  subst ht1
  cases hr9
  obtain ⟨p, l, e, s, m, args, below, meth, c, h0, G, ⟨hsl, hx, hb, hml, hr, hlk, hown, hnm, htab⟩, hts, hSt, rfl⟩ := C
  intro H locs ls hls a1 a2 a3 a4
  have k9 := kk H locs ls hls a1 a2 a3 a4
  obtain ⟨L, xs, e1, scr, t1, t2, t3, t4, ha⟩ := mm_scr a1 (by decide) ea
  exact W.alen hx hb t1 (hSt.2.2.2.2.2.2.2.2.2 scr ha) (by rw [t3]) rfl rfl hd k9
/-- a text's fields -/
theorem mm_getS (C : mm_C d y cc nL ret oz hz V) {k idx : Nat} {v : Value} (hk : k < 2) (hw : Cond.fieldLink y.cls idx (mm_TS k).1 (mm_TS k).2.1 (mm_TS k).2.2.1 ∈ lw_good) (hd : decode cc pc = .ok (.getfield idx, 3)) (hg : gF h r 13 k = some v) (kk : V (pc + 3) lv (v :: st) h) : V pc lv (va_rf r :: st) h := by
  obtain ⟨a, fs, rfl, ea, ev⟩ := gF_some hg
  obtain ⟨p, l, e, s, m, args, below, meth, c, h0, G, ⟨hsl, hx, hb, hml, hr, hlk, hown, hnm, htab⟩, hts, hSt, rfl⟩ := C
  intro H locs ls hls a1 a2 a3 a4
  have k9 := kk H locs ls hls a1 a2 a3 a4
  have ha : a < 51 ∧ fs = [.ref (64 + a), .int 0] := by
    by_cases ha : a < 128
    · rw [a1.lo ha (by rw [ea]; intro n f z; cases z)] at ea
      unfold mm_ext at ea
      split at ea
      · rename_i h51
        simp only [Sum.inr.injEq, Option.some.injEq, Prod.mk.injEq, true_and] at ea
        exact ⟨h51, ea.symm⟩
      · split at ea <;> simp at ea
    · obtain ⟨g1, g2, g3, g4, g5, g6⟩ := a1
      have hlt : a < h.2.1 := Nat.not_le.mp fun q => by rw [g6 a q] at ea; cases ea
      obtain ⟨r9, r1, -⟩ := g5 a (Nat.not_lt.mp ha) hlt (.inr (13, fs.map (mm_v G))) (by rw [ea]; rfl)
      simp at r1
  obtain ⟨ha, rfl⟩ := ha
  obtain ⟨-, o1, o2, -⟩ := hSt.2.2.1 a ha
  have hkept : ∀ q : Nat, q < G.2.2.2.size → ¬ mm_A G q → H[q]? = G.2.2.2[q]? := fun q g1 _ => a1.2.2.1 q g1
  have e1 : mm_ad G a = G.2.2.1 a := by unfold mm_ad; rw [if_pos (by omega)]
  match k, hk, hw, ev with
  | 0, hk, hw, ev =>
    cases ev
    obtain ⟨cf, kf, fi, f, cell, t1, t2, t3, t4, t5, t6⟩ := o2.kept hkept
    have e2 : mm_v G (.ref (64 + a)) = .ref (G.2.2.1 (64 + a)) := by
      show Value.ref (mm_ad G (64 + a)) = _
      unfold mm_ad; rw [if_pos (by omega)]
    rw [List.map_cons, e2] at k9
    refine W.getf hx hb hown (hts _ hw) t1 t2 (a := mm_ad G a) (by rw [e1]; exact t3) t4 t5 rfl rfl hd k9
  | 1, hk, hw, ev =>
    cases ev
    obtain ⟨cf, kf, fi, f, cell, t1, t2, t3, t4, t5, t6⟩ := o1.kept hkept
    refine W.getf hx hb hown (hts _ hw) t1 t2 (a := mm_ad G a) (by rw [e1]; exact t3) t4 t5 rfl rfl hd k9
theorem mm_getSi (C : mm_C d y cc nL ret oz hz V) {idx : Nat} {v : Int32} (hw : Cond.fieldLink y.cls idx "java/lang/String" "coder" "B" ∈ lw_good) (hd : decode cc pc = .ok (.getfield idx, 3)) (hg : gI h r 13 1 = some v) (kk : V (pc + 3) lv (.int v :: st) h) : V pc lv (va_rf r :: st) h := mm_getS C (k := 1) (by decide) hw hd (gI_some hg) kk
theorem mm_getSr (C : mm_C d y cc nL ret oz hz V) {idx : Nat} {v : Option Nat} (hw : Cond.fieldLink y.cls idx "java/lang/String" "value" "[B" ∈ lw_good) (hd : decode cc pc = .ok (.getfield idx, 3)) (hg : gR h r 13 0 = some v) (kk : V (pc + 3) lv (va_rf v :: st) h) : V pc lv (va_rf r :: st) h := mm_getS C (k := 0) (by decide) hw hd (gR_some hg) kk
theorem mm_ldcS (C : mm_C d y cc nL ret oz hz V) {idx i : Nat} {tx : String} {bs : List Int32} (hi : i < 51) (hq : mm_strs[i]? = some (y.cls, idx, tx, bs)) (hd : decode cc pc = .ok (.ldc idx, 2)) (kk : V (pc + 2) lv (va_rf (some i) :: st) h) : V pc lv st h := by
  obtain ⟨p, l, e, s, m, args, below, meth, c, h0, G, ⟨hsl, hx, hb, hml, hr, hlk, hown, hnm, htab⟩, hts, hSt, rfl⟩ := C
  intro H locs ls hls a1 a2 a3 a4
  have k9 := kk H locs ls hls a1 a2 a3 a4
  have e2 : mm_v G (va_rf (some i)) = .ref (G.2.2.1 i) := by
    show Value.ref (mm_ad G i) = _
    unfold mm_ad; rw [if_pos (by omega)]
  rw [List.map_cons, e2] at k9
  have hz := hSt.2.2.2.1 i _ hq
  intro T hT X
  obtain ⟨t, b1, b2⟩ := k9 T hT X
  exact ⟨t, X.ldcString hx hown (text := tx) (a := G.2.2.1 i) hz.1 hz.2 (g := F0 m pc ls _) rfl (by rw [hb]; exact hd) t b1, b2⟩
/-- COMPACT_STRINGS -/
theorem mm_getsC (C : mm_C d y cc nL ret oz hz V) {idx : Nat} (hw : Cond.fieldLink y.cls idx "java/lang/String" "COMPACT_STRINGS" "Z" ∈ lw_good) (hd : decode cc pc = .ok (.getstatic idx, 3)) (kk : V (pc + 3) lv (.int 1 :: st) h) : V pc lv st h := by
  obtain ⟨p, l, e, s, m, args, below, meth, c, h0, G, ⟨hsl, hx, hb, hml, hr, hlk, hown, hnm, htab⟩, hts, hSt, rfl⟩ := C
  intro H locs ls hls a1 a2 a3 a4
  have k9 := kk H locs ls hls a1 a2 a3 a4
  have hkept : ∀ q : Nat, q < G.2.2.2.size → ¬ mm_A G q → H[q]? = G.2.2.2[q]? := fun q g1 _ => a1.2.2.1 q g1
  obtain ⟨cf, kf, fi, f, a, cell, t1, t2, t3, t4, t5, t6, t7, t8⟩ := hSt.2.2.2.2.1.kept hkept
  exact W.gets hx hb hown (hts _ hw) t1 t2 t3 t4 t5 (by intro z; rw [z] at t6; cases t6) t7 rfl hd k9
end MMA
