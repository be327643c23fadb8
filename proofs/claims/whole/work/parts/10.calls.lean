/-- what a call needs of the tables -/
def mm_T (y : MethodName) (bytes : ByteArray) (maxL : Nat) (ret : Option FieldType) (n : Nat) : Prop := Cond.code y bytes maxL ret ∈ lw_good ∧ Cond.initialized y.cls ∈ lw_good ∧ plainName y.cls = true ∧ y.cls ≠ "java/lang/invoke/MethodHandle" ∧ y.cls ≠ "java/lang/invoke/VarHandle" ∧ (parseMethodDescriptor y.desc).map (fun d => d.parameters.length) = some n
theorem mm_blind {G : mm_G} {vs : List Value} {h : MH} : FrameBlind (mm_Pc G vs h) := fun a U g mk q => ⟨q.1, q.2.1, q.2.2.warm (U := U.calling g mk a) (State.WarmedH.refl U)⟩
theorem mm_callback {y : MethodName} {bytes : ByteArray} {maxL n d d1 : Nat} {rk : Option FieldType} {vs : List Value} {h h1 h0 : MH} {o : String ⊕ Option Value} {l : Launch} {G : mm_G} {p : Program} {e : Env} {below : List Frame} {s : State} {args : Array Value} (hM : mm_M y bytes maxL rk d1 vs h o h1) (hT : mm_T y bytes maxL rk n) (hts : ∀ w ∈ lw_good, w.before args s = true) (hsl : l.stackTraces = false) (hdd : d1 + 1 ≤ d) (hmx : maxL ≤ 80) :
    vx_Back l (mm_rm d h0) p e below s args y 3 8 (mm_PreOf (mm_rm d h0) (mm_rm d1 h) (mm_Pc G vs h)) (PostOf (mm_Qc G h o h1) (h1.2.1 - h.2.1) (h1.2.2 - h.2.2) (mm_A G)) (vx_Post (mm_XC G h o h1) (h1.2.1 - h.2.1) (h1.2.2 - h.2.2) (mm_A G)) := by
  have hcw : Cond.code y bytes maxL rk ∈ (.code y bytes maxL rk :: lw_good) := List.mem_cons_self
  have hg : GoodIn lw_good (.code y bytes maxL rk :: lw_good) := fun w hw => by
    rcases List.mem_cons.mp hw with rfl | h9
    · exact lw_goodIn _ hT.1
    · exact lw_goodIn _ h9
  exact mm_back (bytes := bytes) (maxL := maxL) (ret := rk) (hM l G hsl) mm_blind (by show d1 + 1 ≤ d; exact hdd) (by show 8 + (maxL + 11) + 100 * d1 ≤ 100 * d; omega) (pay_in hts hg) hcw (fun a' U hW => pay_in hts lw_goodIn _ hT.2.1 a' U hW)
section MMO
variable {p : Program} {l : Launch} {e : Env} {R : Room} {s : State} {m : MethodId} {args : Array Value} {below : List Frame} {meth : Method} {c : Code} {H : Heap} {locs : List Loc} {cells slots : Nat} {Q : State → Prop}
variable {mc ms : Nat} {free : Addr → Prop} {A0 A1 : Nat → Prop} {H0 : Heap} {a : Array Value} {ls : Array Slot} {st0 rest : List Value}
variable {Qc : Array Value → State → Outcome → State → Prop} {XC : String → State → State → Prop}
theorem mm_out {pc : Nat} {E : String} {ce : Cell} {q : Addr} {mc ms : Nat} (hout : ∀ x ∈ c.exceptionTable.toList, covers x pc = false) (hlocks : meth.locks = false) (hcell : H[q]? = some ce) (hv : ce.vm = .none) (hcl : s.vm.findClass E = some ce.cls)
    (hx : ∀ t : State, t.heap = H → s.WarmedH t.vm → XC E s t) (hf : ∀ z ∈ locs, free z.base) (hc : cells ≤ mc) (hs : slots ≤ ms) :
    vx_W p l e R s m args below meth c H locs cells slots (vx_MQ below Qc XC args s mc ms free) (F0 m pc ls rest) q := by
  intro T hT X
  obtain ⟨st1, hrun, hend, hW, hsm⟩ := X.leaveThrown q (g := F0 m pc ls rest) rfl rfl rfl hout hlocks
  have hcell9 : (T.setFrames (.throwing q :: below)).heap[q]? = some ce := by
    show T.heap[q]? = some ce
    rw [hT]; exact hcell
  exact ⟨_, st1, .threw q, hrun, hend, Or.inr ⟨q, rfl, E, ce, locs, hx _ hT hW, hcell9, hv, hcl, hW, hsm.mono hc hs, hf⟩⟩
end MMO
theorem mm_backN {l : Launch} {R : Room} {p : Program} {e : Env} {below : List Frame} {s : State} {args : Array Value} {y : MethodName} {Pre : Pt → Array Value → Prop} {Post : Pt → Array Value → Option Value → Pt → Prop} {PostX : Pt → Array Value → Addr → Pt → Prop} (hK : vx_Back l R p e below s args y 3 8 Pre Post PostX) (hno : ∀ A a q B, ¬ PostX A a q B) : Back l R p e below s args y 3 8 Pre Post := by
  intro m meth c A g ig mk a X hg hs hd hW hn hp
  rcases hK m meth c A g ig mk a X hg hs hd hW hn hp with h | ⟨q, B, -, h, -⟩
  · exact h
  · exact (hno _ _ _ _ h).elim
theorem mm_noX {G : mm_G} {h h1 : MH} {v : Option Value} {mc ms : Nat} {free : Addr → Prop} : ∀ A a q B, ¬ vx_Post (mm_XC G h (.inr v) h1) mc ms free A a q B := by
  rintro A a q B ⟨g, mk, t, L, E, ce, -, -, ⟨ho, -⟩, -⟩
  cases ho
/-- the receiver is an object of that kind -/
def oK (h : MH) (r : Option Nat) (c : Nat) : Bool := match r with
  | none => false
  | some a => match h.1 a with
    | .inr (some (c', _)) => c' == c
    | _ => false
def cV {α : Type} (h : MH) (r : Option Nat) (c : Nat) (k : Option α) : Option α := if oK h r c = true then k else none
theorem cV_some {α : Type} {h : MH} {r : Option Nat} {c : Nat} {k : Option α} {x : α} (q : cV h r c k = some x) : oK h r c = true ∧ k = some x := by
  unfold cV at q
  split at q
  · rename_i hc; exact ⟨hc, q⟩
  · cases q
theorem oK_some {h : MH} {r : Option Nat} {c : Nat} (q : oK h r c = true) : ∃ a fs, r = some a ∧ h.1 a = .inr (some (c, fs)) := by
  unfold oK at q
  repeat' split at q
  all_goals first | cases q; done | skip
  rename_i a _ c' fs e
  rw [beq_iff_eq] at q
  subst q
  exact ⟨a, fs, rfl, e⟩
theorem mm_recv {G : mm_G} {h : MH} {H : Heap} {s : State} {r : Option Nat} {ci : Nat} {C : String} (hK : mm_K G s) (hR : mm_R G h H) (ho : oK h r ci = true) (hc : (ci = 13 ∧ C = "java/lang/String") ∨ ∃ q : vw_C, mm_cl[ci]? = some q ∧ q.1 = C) : ∃ b, r = some b ∧ ∃ cell : Cell, H[mm_ad G b]? = some cell ∧ cell.vm.isStatics = false ∧ s.vm.findClass C = some cell.cls := by
  obtain ⟨a, fs, rfl, ea⟩ := oK_some ho
  refine ⟨a, rfl, ?_⟩
  rcases hc with ⟨rfl, rfl⟩ | ⟨q, hq, rfl⟩
  · have ha : a < 51 := by
      by_cases ha : a < 128
      · rw [hR.lo ha (by rw [ea]; intro n f z; cases z)] at ea
        unfold mm_ext at ea
        split at ea
        · assumption
        · split at ea <;> simp at ea
      · obtain ⟨g1, g2, g3, g4, g5, g6⟩ := hR
        have hlt : a < h.2.1 := Nat.not_le.mp fun q => by rw [g6 a q] at ea; cases ea
        obtain ⟨r9, r1, -⟩ := g5 a (Nat.not_lt.mp ha) hlt (.inr (13, fs.map (mm_v G))) (by rw [ea]; rfl)
        simp at r1
    obtain ⟨cell, c1, c2, c3, -⟩ := (hK.2.1 a ha).1
    have hlt : G.2.2.1 a < G.2.2.2.size := (Array.getElem?_eq_some_iff.mp c1).1
    refine ⟨cell, ?_, c2, c3⟩
    unfold mm_ad
    rw [if_pos (by omega), hR.2.2.1 _ hlt]
    exact c1
  · have hci : ci ≠ 13 := by intro z; subst z; simp at hq
    obtain ⟨b1, b2⟩ := hR.hi hci ea
    obtain ⟨r9, r1, cell, c1, c2, c3, -⟩ := hR.at b1 b2 (e := .inr (ci, fs.map (mm_v G))) (by rw [ea]; rfl)
    exact ⟨cell, c1, by rw [c3]; rfl, by rw [c2]; exact (hK.1.1 ci q hq).2.1⟩
section MMC
variable {d : Nat} {y : MethodName} {cc : ByteArray} {nL : Nat} {ret : Option FieldType} {oz : String ⊕ Option Value} {hz : MH} {V : Nat → List (Nat × Value) → List Value → MH → Prop} {pc : Nat} {lv lv' : List (Nat × Value)} {st stk : List Value} {h h1 : MH} {r : Option Nat}
theorem mm_callV (C : mm_C d y cc nL ret oz hz V) {yk : MethodName} {bytes : ByteArray} {maxL n idx d1 : Nat} {rk : Option FieldType} {As : List Value} {ci : Nat} {vk : Option Value} (hM : mm_M yk bytes maxL rk d1 (va_rf r :: As) h (.inr vk) h1) (hT : mm_T yk bytes maxL rk n) (ho9 : oK h r ci = true) (hc9 : (ci = 13 ∧ yk.cls = "java/lang/String") ∨ ∃ q : vw_C, mm_cl[ci]? = some q ∧ q.1 = yk.cls) (hw1 : Cond.methodLink y.cls idx yk ∈ lw_good) (hw2 : Cond.instanceMethod yk ∈ lw_good) (hw3 : Cond.selects yk.cls yk yk ∈ lw_good) (hdd : d1 + 1 ≤ d) (hmx : maxL ≤ 80) (hn : As.length = n) (hst : (st.map fun v => v.category).sum ≤ 8) (hstk : stk = As.reverse ++ va_rf r :: st) (hd : decode cc pc = .ok (.invokevirtual idx, 3)) (kk : V (pc + 3) lv (vk.toList ++ st) h1) : V pc lv stk h := by
  subst hstk
  obtain ⟨p, l, e, s, m, args, below, meth, c, h0, G, ⟨hsl, hx, hb, hml, hr, hlk, hown, hnm, htab⟩, hts, hSt, rfl⟩ := C
  intro H locs ls hls a1 a2 a3 a4
  obtain ⟨b, rfl, cellB, hcB, hoB, hclB⟩ := mm_recv hSt.2 a1 ho9 hc9
  have hcat : ((st.map (mm_v G)).map fun v => v.category) = st.map fun v => v.category := by rw [List.map_map]; apply List.map_congr_left; intro v _; exact mm_v_cat G v
  have q1 : (mm_rm d h0).cells = mm_capC - h0.2.1 := rfl
  have q2 : (mm_rm d h0).slots = mm_capS - h0.2.2 := rfl
  have hcode := hts _ hT.1
  have hini := hts _ hT.2.1
  have hK := mm_callback (below := below) (e := e) (p := p) (s := s) (args := args) hM hT hts hsl hdd hmx (l := l) (G := G) (h0 := h0)
  have hlen : ∀ sig, parseMethodDescriptor yk.desc = some sig → (As.map (mm_v G)).length = sig.parameters.length := by
    intro sig hs
    have h2 := hT.2.2.2.2.2
    rw [hs] at h2
    rw [List.length_map, hn]
    exact (Option.some.inj h2).symm
  intro T9 hT9 X
  have hstack : (F0 m pc ls ((As.reverse ++ va_rf (some b) :: st).map (mm_v G))).stack = (As.map (mm_v G)).reverse ++ .ref (mm_ad G b) :: st.map (mm_v G) := by
    show (As.reverse ++ va_rf (some b) :: st).map (mm_v G) = _
    rw [List.map_append, List.map_reverse]; rfl
  rcases vx_callV X hx (C := yk.cls) (bytes := bytes) (maxL := maxL) (ret := rk) hown (hts _ hw1) (hts _ hw2) (hts _ hw3) hcode ⟨hT.2.2.2.1, hT.2.2.2.2.1⟩ hK (by rw [hT9]; exact hcB) hoB hclB rfl (by rw [show (F0 m pc ls ((As.reverse ++ va_rf (some b) :: st).map (mm_v G))).locals = ls from rfl, hls.1, hml]) (argsL := As.map (mm_v G)) (rest := st.map (mm_v G)) hlen hstack (by rw [hcat]; show 2 * 0 + _ ≤ 8; omega) (by rw [hb]; exact hd)
    (fun vm1 hW1 => ⟨by show h.2.1 - h0.2.1 + (mm_capC - h.2.1) ≤ mm_capC - h0.2.1; have := a1.1; omega, by show h.2.2 - h0.2.2 + (mm_capS - h.2.2) ≤ mm_capS - h0.2.2; have := a1.1; omega, rfl, by show mm_R G h T9.heap; rw [hT9]; exact a1, hSt.2.warm (U := T9.setVm vm1) hW1⟩) with ⟨v, vm1, ⟨U', l2, c2, s2⟩, hW1, X', hq, st1⟩ | ⟨q, vm1, ⟨U', l2, c2, s2⟩, hW1, X', hq, st1⟩
  · have kk9 := fun H9 locs9 ls9 => kk H9 locs9 ls9
    simp only [List.map_append, show (vk.toList.map (mm_v G)) = (vk.map (mm_v G)).toList from by cases vk <;> rfl] at kk9
    obtain ⟨g', mk, t, L, e1, e2, ⟨v', ho, hv, hS1, m1, m2⟩, b1, hL, b2, b3⟩ := hq
    cases ho
    cases hv
    dsimp only [Pt.U, Pt.locs, Pt.cells, Pt.slots] at X' e1 e2 b1 b2 b3 st1
    subst b1; subst b2; subst b3
    have hR1 : mm_R G h1 U'.heap := by rw [e1]; exact hS1.1
    have k9 := kk9 U'.heap (locs ++ L) ls hls hR1 (fun q hq => (List.mem_append.mp hq).elim (a2 q) (hL q)) (Nat.le_trans a3 m1) (Nat.le_trans a4 m2)
    rw [show h1.2.1 - h0.2.1 = h.2.1 - h0.2.1 + (h1.2.1 - h.2.1) by omega, show h1.2.2 - h0.2.2 = h.2.2 - h0.2.2 + (h1.2.2 - h.2.2) by omega] at k9
    obtain ⟨t2, k1, k2⟩ := k9 U' rfl X'
    exact ⟨t2, st1 t2 k1, k2⟩
  · exact (mm_noX _ _ _ _ hq).elim
theorem mm_callVX (C : mm_C d y cc nL ret oz hz V) {yk : MethodName} {bytes : ByteArray} {maxL n idx d1 : Nat} {rk : Option FieldType} {As : List Value} {ci : Nat} {E : String} (hM : mm_M yk bytes maxL rk d1 (va_rf r :: As) h (.inl E) h1) (hT : mm_T yk bytes maxL rk n) (ho9 : oK h r ci = true) (hc9 : (ci = 13 ∧ yk.cls = "java/lang/String") ∨ ∃ q : vw_C, mm_cl[ci]? = some q ∧ q.1 = yk.cls) (hw1 : Cond.methodLink y.cls idx yk ∈ lw_good) (hw2 : Cond.instanceMethod yk ∈ lw_good) (hw3 : Cond.selects yk.cls yk yk ∈ lw_good) (hdd : d1 + 1 ≤ d) (hmx : maxL ≤ 80) (hn : As.length = n) (hst : (st.map fun v => v.category).sum ≤ 8) (hstk : stk = As.reverse ++ va_rf r :: st) (hd : decode cc pc = .ok (.invokevirtual idx, 3)) (hoz : oz = .inl E) (hz9 : hz = h1) : V pc lv stk h := by
  subst hstk
  obtain ⟨p, l, e, s, m, args, below, meth, c, h0, G, ⟨hsl, hx, hb, hml, hr, hlk, hown, hnm, htab⟩, hts, hSt, rfl⟩ := C
  intro H locs ls hls a1 a2 a3 a4
  obtain ⟨b, rfl, cellB, hcB, hoB, hclB⟩ := mm_recv hSt.2 a1 ho9 hc9
  have hcat : ((st.map (mm_v G)).map fun v => v.category) = st.map fun v => v.category := by rw [List.map_map]; apply List.map_congr_left; intro v _; exact mm_v_cat G v
  have q1 : (mm_rm d h0).cells = mm_capC - h0.2.1 := rfl
  have q2 : (mm_rm d h0).slots = mm_capS - h0.2.2 := rfl
  have hcode := hts _ hT.1
  have hini := hts _ hT.2.1
  have hK := mm_callback (below := below) (e := e) (p := p) (s := s) (args := args) hM hT hts hsl hdd hmx (l := l) (G := G) (h0 := h0)
  have hlen : ∀ sig, parseMethodDescriptor yk.desc = some sig → (As.map (mm_v G)).length = sig.parameters.length := by
    intro sig hs
    have h2 := hT.2.2.2.2.2
    rw [hs] at h2
    rw [List.length_map, hn]
    exact (Option.some.inj h2).symm
  intro T9 hT9 X
  have hstack : (F0 m pc ls ((As.reverse ++ va_rf (some b) :: st).map (mm_v G))).stack = (As.map (mm_v G)).reverse ++ .ref (mm_ad G b) :: st.map (mm_v G) := by
    show (As.reverse ++ va_rf (some b) :: st).map (mm_v G) = _
    rw [List.map_append, List.map_reverse]; rfl
  rcases vx_callV X hx (C := yk.cls) (bytes := bytes) (maxL := maxL) (ret := rk) hown (hts _ hw1) (hts _ hw2) (hts _ hw3) hcode ⟨hT.2.2.2.1, hT.2.2.2.2.1⟩ hK (by rw [hT9]; exact hcB) hoB hclB rfl (by rw [show (F0 m pc ls ((As.reverse ++ va_rf (some b) :: st).map (mm_v G))).locals = ls from rfl, hls.1, hml]) (argsL := As.map (mm_v G)) (rest := st.map (mm_v G)) hlen hstack (by rw [hcat]; show 2 * 0 + _ ≤ 8; omega) (by rw [hb]; exact hd)
    (fun vm1 hW1 => ⟨by show h.2.1 - h0.2.1 + (mm_capC - h.2.1) ≤ mm_capC - h0.2.1; have := a1.1; omega, by show h.2.2 - h0.2.2 + (mm_capS - h.2.2) ≤ mm_capS - h0.2.2; have := a1.1; omega, rfl, by show mm_R G h T9.heap; rw [hT9]; exact a1, hSt.2.warm (U := T9.setVm vm1) hW1⟩) with ⟨v, vm1, ⟨U', l2, c2, s2⟩, hW1, X', hq, st1⟩ | ⟨q, vm1, ⟨U', l2, c2, s2⟩, hW1, X', hq, st1⟩
  · obtain ⟨g', mk, t, L, e1, e2, ⟨v', ho, -⟩, -⟩ := hq
    cases ho
  · have ho9 := hoz
    obtain ⟨g', mk, t, L, E9, ce, e1, e2, ⟨ho, hS1, m1, m2⟩, hce, hcv, hcl, b1, hL, b2, b3⟩ := hq
    cases ho
    dsimp only [Pt.U, Pt.locs, Pt.cells, Pt.slots] at X' e1 e2 b1 b2 b3 st1 hcl
    subst b1; subst b2; subst b3
    subst hz9
    subst ho9
    have hR1 : mm_R G hz U'.heap := by rw [e1]; exact hS1.1
    have hcl2 : s.vm.findClass E = some ce.cls := vx_cls hW1 hcl
    obtain ⟨t2, k1, k2⟩ := mm_out (c := c) (H := U'.heap) (Qc := mm_Qc G h0 (.inl E) hz) (XC := mm_XC G h0 (.inl E) hz) (free := mm_A G) (mc := hz.2.1 - h0.2.1) (ms := hz.2.2 - h0.2.2) (ls := ls) (rest := st.map (mm_v G)) (pc := pc) (fun x hx => (htab x hx).elim) hlk (by rw [e1]; exact hce) hcv hcl2 (fun t9 ht9 hal => ⟨rfl, ⟨by rw [ht9]; exact hR1, hSt.2.warm hal⟩, Nat.le_trans a3 m1, Nat.le_trans a4 m2⟩) (fun q hq => (List.mem_append.mp hq).elim (a2 q) (hL q)) (by omega) (by omega) U' rfl X'
    exact ⟨t2, st1.trans k1, k2⟩
theorem mm_callS (C : mm_C d y cc nL ret oz hz V) {yk : MethodName} {bytes : ByteArray} {maxL n idx d1 : Nat} {rk : Option FieldType} {As : List Value} {vk : Option Value} (hM : mm_M yk bytes maxL rk d1 As h (.inr vk) h1) (hT : mm_T yk bytes maxL rk n) (hw1 : Cond.methodLink y.cls idx yk ∈ lw_good) (hw2 : Cond.static yk ∈ lw_good) (hdd : d1 + 1 ≤ d) (hmx : maxL ≤ 80) (hn : As.length = n) (hst : (st.map fun v => v.category).sum ≤ 8) (hstk : stk = As.reverse ++ st) (hd : decode cc pc = .ok (.invokestatic idx, 3)) (kk : V (pc + 3) lv (vk.toList ++ st) h1) : V pc lv stk h := by
  subst hstk
  obtain ⟨p, l, e, s, m, args, below, meth, c, h0, G, ⟨hsl, hx, hb, hml, hr, hlk, hown, hnm, htab⟩, hts, hSt, rfl⟩ := C
  intro H locs ls hls a1 a2 a3 a4
  have hcat : ((st.map (mm_v G)).map fun v => v.category) = st.map fun v => v.category := by rw [List.map_map]; apply List.map_congr_left; intro v _; exact mm_v_cat G v
  have q1 : (mm_rm d h0).cells = mm_capC - h0.2.1 := rfl
  have q2 : (mm_rm d h0).slots = mm_capS - h0.2.2 := rfl
  have hcode := hts _ hT.1
  have hini := hts _ hT.2.1
  have hK := mm_callback (below := below) (e := e) (p := p) (s := s) (args := args) hM hT hts hsl hdd hmx (l := l) (G := G) (h0 := h0)
  have hlen : ∀ sig, parseMethodDescriptor yk.desc = some sig → (As.map (mm_v G)).length = sig.parameters.length := by
    intro sig hs
    have h2 := hT.2.2.2.2.2
    rw [hs] at h2
    rw [List.length_map, hn]
    exact (Option.some.inj h2).symm
  intro T9 hT9 X
  have hstack : (F0 m pc ls ((As.reverse ++ st).map (mm_v G))).stack = (As.map (mm_v G)).reverse ++ st.map (mm_v G) := by
    show (As.reverse ++ st).map (mm_v G) = _
    rw [List.map_append, List.map_reverse]
  rcases vx_callS X hx (bytes := bytes) (maxL := maxL) (ret := rk) hown (hts _ hw1) (hts _ hw2) hini hcode ⟨hT.2.2.2.1, hT.2.2.2.2.1⟩ hK rfl (by rw [show (F0 m pc ls ((As.reverse ++ st).map (mm_v G))).locals = ls from rfl, hls.1, hml]) (argsL := As.map (mm_v G)) (rest := st.map (mm_v G)) hlen hstack (by rw [hcat]; show 2 * 0 + _ ≤ 8; omega) (by rw [hb]; exact hd)
    (fun vm1 hW1 => ⟨by show h.2.1 - h0.2.1 + (mm_capC - h.2.1) ≤ mm_capC - h0.2.1; have := a1.1; omega, by show h.2.2 - h0.2.2 + (mm_capS - h.2.2) ≤ mm_capS - h0.2.2; have := a1.1; omega, rfl, by show mm_R G h T9.heap; rw [hT9]; exact a1, hSt.2.warm (U := T9.setVm vm1) hW1⟩) with ⟨v, vm1, ⟨U', l2, c2, s2⟩, hW1, X', hq, st1⟩ | ⟨q, vm1, ⟨U', l2, c2, s2⟩, hW1, X', hq, st1⟩
  · have kk9 := fun H9 locs9 ls9 => kk H9 locs9 ls9
    simp only [List.map_append, show (vk.toList.map (mm_v G)) = (vk.map (mm_v G)).toList from by cases vk <;> rfl] at kk9
    obtain ⟨g', mk, t, L, e1, e2, ⟨v', ho, hv, hS1, m1, m2⟩, b1, hL, b2, b3⟩ := hq
    cases ho
    cases hv
    dsimp only [Pt.U, Pt.locs, Pt.cells, Pt.slots] at X' e1 e2 b1 b2 b3 st1
    subst b1; subst b2; subst b3
    have hR1 : mm_R G h1 U'.heap := by rw [e1]; exact hS1.1
    have k9 := kk9 U'.heap (locs ++ L) ls hls hR1 (fun q hq => (List.mem_append.mp hq).elim (a2 q) (hL q)) (Nat.le_trans a3 m1) (Nat.le_trans a4 m2)
    rw [show h1.2.1 - h0.2.1 = h.2.1 - h0.2.1 + (h1.2.1 - h.2.1) by omega, show h1.2.2 - h0.2.2 = h.2.2 - h0.2.2 + (h1.2.2 - h.2.2) by omega] at k9
    obtain ⟨t2, k1, k2⟩ := k9 U' rfl X'
    exact ⟨t2, st1 t2 k1, k2⟩
  · exact (mm_noX _ _ _ _ hq).elim
theorem mm_callSX (C : mm_C d y cc nL ret oz hz V) {yk : MethodName} {bytes : ByteArray} {maxL n idx d1 : Nat} {rk : Option FieldType} {As : List Value} {E : String} (hM : mm_M yk bytes maxL rk d1 As h (.inl E) h1) (hT : mm_T yk bytes maxL rk n) (hw1 : Cond.methodLink y.cls idx yk ∈ lw_good) (hw2 : Cond.static yk ∈ lw_good) (hdd : d1 + 1 ≤ d) (hmx : maxL ≤ 80) (hn : As.length = n) (hst : (st.map fun v => v.category).sum ≤ 8) (hstk : stk = As.reverse ++ st) (hd : decode cc pc = .ok (.invokestatic idx, 3)) (hoz : oz = .inl E) (hz9 : hz = h1) : V pc lv stk h := by
  subst hstk
  obtain ⟨p, l, e, s, m, args, below, meth, c, h0, G, ⟨hsl, hx, hb, hml, hr, hlk, hown, hnm, htab⟩, hts, hSt, rfl⟩ := C
  intro H locs ls hls a1 a2 a3 a4
  have hcat : ((st.map (mm_v G)).map fun v => v.category) = st.map fun v => v.category := by rw [List.map_map]; apply List.map_congr_left; intro v _; exact mm_v_cat G v
  have q1 : (mm_rm d h0).cells = mm_capC - h0.2.1 := rfl
  have q2 : (mm_rm d h0).slots = mm_capS - h0.2.2 := rfl
  have hcode := hts _ hT.1
  have hini := hts _ hT.2.1
  have hK := mm_callback (below := below) (e := e) (p := p) (s := s) (args := args) hM hT hts hsl hdd hmx (l := l) (G := G) (h0 := h0)
  have hlen : ∀ sig, parseMethodDescriptor yk.desc = some sig → (As.map (mm_v G)).length = sig.parameters.length := by
    intro sig hs
    have h2 := hT.2.2.2.2.2
    rw [hs] at h2
    rw [List.length_map, hn]
    exact (Option.some.inj h2).symm
  intro T9 hT9 X
  have hstack : (F0 m pc ls ((As.reverse ++ st).map (mm_v G))).stack = (As.map (mm_v G)).reverse ++ st.map (mm_v G) := by
    show (As.reverse ++ st).map (mm_v G) = _
    rw [List.map_append, List.map_reverse]
  rcases vx_callS X hx (bytes := bytes) (maxL := maxL) (ret := rk) hown (hts _ hw1) (hts _ hw2) hini hcode ⟨hT.2.2.2.1, hT.2.2.2.2.1⟩ hK rfl (by rw [show (F0 m pc ls ((As.reverse ++ st).map (mm_v G))).locals = ls from rfl, hls.1, hml]) (argsL := As.map (mm_v G)) (rest := st.map (mm_v G)) hlen hstack (by rw [hcat]; show 2 * 0 + _ ≤ 8; omega) (by rw [hb]; exact hd)
    (fun vm1 hW1 => ⟨by show h.2.1 - h0.2.1 + (mm_capC - h.2.1) ≤ mm_capC - h0.2.1; have := a1.1; omega, by show h.2.2 - h0.2.2 + (mm_capS - h.2.2) ≤ mm_capS - h0.2.2; have := a1.1; omega, rfl, by show mm_R G h T9.heap; rw [hT9]; exact a1, hSt.2.warm (U := T9.setVm vm1) hW1⟩) with ⟨v, vm1, ⟨U', l2, c2, s2⟩, hW1, X', hq, st1⟩ | ⟨q, vm1, ⟨U', l2, c2, s2⟩, hW1, X', hq, st1⟩
  · obtain ⟨g', mk, t, L, e1, e2, ⟨v', ho, -⟩, -⟩ := hq
    cases ho
  · have ho9 := hoz
    obtain ⟨g', mk, t, L, E9, ce, e1, e2, ⟨ho, hS1, m1, m2⟩, hce, hcv, hcl, b1, hL, b2, b3⟩ := hq
    cases ho
    dsimp only [Pt.U, Pt.locs, Pt.cells, Pt.slots] at X' e1 e2 b1 b2 b3 st1 hcl
    subst b1; subst b2; subst b3
    subst hz9
    subst ho9
    have hR1 : mm_R G hz U'.heap := by rw [e1]; exact hS1.1
    have hcl2 : s.vm.findClass E = some ce.cls := vx_cls hW1 hcl
    obtain ⟨t2, k1, k2⟩ := mm_out (c := c) (H := U'.heap) (Qc := mm_Qc G h0 (.inl E) hz) (XC := mm_XC G h0 (.inl E) hz) (free := mm_A G) (mc := hz.2.1 - h0.2.1) (ms := hz.2.2 - h0.2.2) (ls := ls) (rest := st.map (mm_v G)) (pc := pc) (fun x hx => (htab x hx).elim) hlk (by rw [e1]; exact hce) hcv hcl2 (fun t9 ht9 hal => ⟨rfl, ⟨by rw [ht9]; exact hR1, hSt.2.warm hal⟩, Nat.le_trans a3 m1, Nat.le_trans a4 m2⟩) (fun q hq => (List.mem_append.mp hq).elim (a2 q) (hL q)) (by omega) (by omega) U' rfl X'
    exact ⟨t2, st1.trans k1, k2⟩
theorem mm_callI (C : mm_C d y cc nL ret oz hz V) {yk : MethodName} {bytes : ByteArray} {maxL n idx d1 : Nat} {As : List Value} {b : Nat} (nest : Bool) (hM : mm_M yk bytes maxL none d1 (va_rf (some b) :: As) h (.inr none) h1) (hT : mm_T yk bytes maxL none n) (hy1 : yk.name = "<init>") (hw1 : if nest = true then Cond.methodLinkNest y.cls idx yk "CrossedLines" ∈ mm_nw else Cond.methodLink y.cls idx yk ∈ lw_good) (hw2 : Cond.instanceMethod yk ∈ lw_good) (hdd : d1 + 1 ≤ d) (hmx : maxL ≤ 80) (hn : As.length = n) (hst : (st.map fun v => v.category).sum ≤ 8) (hstk : stk = As.reverse ++ va_rf (some b) :: st) (hd : decode cc pc = .ok (.invokespecial idx, 3)) (kk : V (pc + 3) lv st h1) : V pc lv stk h := by
  subst hstk
  obtain ⟨p, l, e, s, m, args, below, meth, c, h0, G, ⟨hsl, hx, hb, hml, hr, hlk, hown, hnm, htab⟩, hts, hSt, rfl⟩ := C
  intro H locs ls hls a1 a2 a3 a4
  have hcat : ((st.map (mm_v G)).map fun v => v.category) = st.map fun v => v.category := by rw [List.map_map]; apply List.map_congr_left; intro v _; exact mm_v_cat G v
  have q1 : (mm_rm d h0).cells = mm_capC - h0.2.1 := rfl
  have q2 : (mm_rm d h0).slots = mm_capS - h0.2.2 := rfl
  have hcode := hts _ hT.1
  have hini := hts _ hT.2.1
  have hK := mm_callback (below := below) (e := e) (p := p) (s := s) (args := args) hM hT hts hsl hdd hmx (l := l) (G := G) (h0 := h0)
  have hlen : ∀ sig, parseMethodDescriptor yk.desc = some sig → (As.map (mm_v G)).length = sig.parameters.length := by
    intro sig hs
    have h2 := hT.2.2.2.2.2
    rw [hs] at h2
    rw [List.length_map, hn]
    exact (Option.some.inj h2).symm
  intro T9 hT9 X
  have hstack : (F0 m pc ls ((As.reverse ++ va_rf (some b) :: st).map (mm_v G))).stack = (As.map (mm_v G)).reverse ++ .ref (mm_ad G b) :: st.map (mm_v G) := by
    show (As.reverse ++ va_rf (some b) :: st).map (mm_v G) = _
    rw [List.map_append, List.map_reverse]; rfl
  have hK2 := mm_backN hK mm_noX
  have hP : ∀ vm1, s.WarmedH vm1 → mm_PreOf (mm_rm d h0) (mm_rm d1 h) (mm_Pc G (va_rf (some b) :: As) h) ⟨T9.setVm vm1, locs, h.2.1 - h0.2.1, h.2.2 - h0.2.2⟩ (Value.ref (mm_ad G b) :: As.map (mm_v G)).toArray := fun vm1 hW1 => ⟨by show h.2.1 - h0.2.1 + (mm_capC - h.2.1) ≤ mm_capC - h0.2.1; have := a1.1; omega, by show h.2.2 - h0.2.2 + (mm_capS - h.2.2) ≤ mm_capS - h0.2.2; have := a1.1; omega, rfl, by show mm_R G h T9.heap; rw [hT9]; exact a1, hSt.2.warm (U := T9.setVm vm1) hW1⟩
  have hsz : (F0 m pc ls ((As.reverse ++ va_rf (some b) :: st).map (mm_v G))).locals.size = c.maxLocals := by rw [show (F0 m pc ls ((As.reverse ++ va_rf (some b) :: st).map (mm_v G))).locals = ls from rfl, hls.1, hml]
  have key : ∃ (v : Option Value) (vm1 : Vm) (B : Pt), s.WarmedH vm1 ∧ Stand p l e (mm_rm d h0) s m args below meth c B.U B.locs B.cells B.slots ∧ PostOf (mm_Qc G h (.inr none) h1) (h1.2.1 - h.2.1) (h1.2.2 - h.2.2) (mm_A G) ⟨T9.setVm vm1, locs, h.2.1 - h0.2.1, h.2.2 - h0.2.2⟩ (Value.ref (mm_ad G b) :: As.map (mm_v G)).toArray v B ∧ ∀ target, Steps p.tables e below (B.U.setTop { F0 m pc ls ((As.reverse ++ va_rf (some b) :: st).map (mm_v G)) with pc := pc + 3, stack := v.toList ++ st.map (mm_v G) }) target → Steps p.tables e below (T9.setTop (F0 m pc ls ((As.reverse ++ va_rf (some b) :: st).map (mm_v G)))) target := by
    cases nest with
    | false => exact callI X hx (bytes := bytes) (maxL := maxL) hown hy1 (hts _ hw1) (hts _ hw2) hcode ⟨hT.2.2.2.1, hT.2.2.2.2.1⟩ hK2 rfl hsz (a := mm_ad G b) (argsL := As.map (mm_v G)) (rest := st.map (mm_v G)) hlen hstack (by rw [hcat]; show 2 * 0 + _ ≤ 8; omega) (by rw [hb]; exact hd) hP
    | true => exact va_callIN X hx (host := "CrossedLines") (bytes := bytes) (maxL := maxL) hown hy1 (mm_nw_use hSt.2 hw1) (hts _ hw2) hcode ⟨hT.2.2.2.1, hT.2.2.2.2.1⟩ hK2 rfl hsz (a := mm_ad G b) (argsL := As.map (mm_v G)) (rest := st.map (mm_v G)) hlen hstack (by rw [hcat]; show 2 * 0 + _ ≤ 8; omega) (by rw [hb]; exact hd) hP
  obtain ⟨v, vm1, ⟨U', l2, c2, s2⟩, hW1, X', hq, st1⟩ := key
  obtain ⟨g', mk, t, L, e1, e2, ⟨v', ho, hv, hS1, m1, m2⟩, b1, hL, b2, b3⟩ := hq
  cases ho
  cases hv
  dsimp only [Pt.U, Pt.locs, Pt.cells, Pt.slots] at X' e1 e2 b1 b2 b3 st1
  subst b1; subst b2; subst b3
  have hR1 : mm_R G h1 U'.heap := by rw [e1]; exact hS1.1
  have k9 := kk U'.heap (locs ++ L) ls hls hR1 (fun q hq => (List.mem_append.mp hq).elim (a2 q) (hL q)) (Nat.le_trans a3 m1) (Nat.le_trans a4 m2)
  rw [show h1.2.1 - h0.2.1 = h.2.1 - h0.2.1 + (h1.2.1 - h.2.1) by omega, show h1.2.2 - h0.2.2 = h.2.2 - h0.2.2 + (h1.2.2 - h.2.2) by omega] at k9
  obtain ⟨t2, k1, k2⟩ := k9 U' rfl X'
  exact ⟨t2, st1 t2 k1, k2⟩
theorem mm_objInit (C : mm_C d y cc nL ret oz hz V) {idx b : Nat} (hw1 : Cond.methodLink y.cls idx Lib.objectInit ∈ lw_good) (hw2 : Cond.instanceMethod Lib.objectInit ∈ lw_good) (hw3 : Cond.code Lib.objectInit ⟨#[0xb1]⟩ 1 none ∈ lw_good) (hdd : 1 ≤ d) (hst : (st.map fun v => v.category).sum ≤ 8) (hd : decode cc pc = .ok (.invokespecial idx, 3)) (kk : V (pc + 3) lv st h) : V pc lv (va_rf (some b) :: st) h := by
  obtain ⟨p, l, e, s, m, args, below, meth, c, h0, G, ⟨hsl, hx, hb, hml, hr, hlk, hown, hnm, htab⟩, hts, hSt, rfl⟩ := C
  intro H locs ls hls a1 a2 a3 a4
  have hcat : ((st.map (mm_v G)).map fun v => v.category) = st.map fun v => v.category := by rw [List.map_map]; apply List.map_congr_left; intro v _; exact mm_v_cat G v
  exact W.objInit hx hb hown (hts _ hw1) (hts _ hw2) (hts _ hw3) rfl (by rw [show (F0 m pc ls ((va_rf (some b) :: st).map (mm_v G))).locals = ls from rfl, hls.1, hml]) rfl hd (by show 1 ≤ d; exact hdd) (by rw [hcat]; show 2 * 0 + _ + 12 ≤ 100 * d; omega) (kk H locs ls hls a1 a2 a3 a4)
end MMC
