/-! bodies with a table of handlers: the law and its helpers -/
def mm_ncL : List (String × String) := [("java/util/NoSuchElementException", "java/lang/IllegalArgumentException"), ("java/util/NoSuchElementException", "java/lang/IllegalStateException"), ("java/util/NoSuchElementException", "java/lang/IndexOutOfBoundsException"), ("java/lang/IllegalArgumentException", "java/util/NoSuchElementException"), ("java/lang/IllegalArgumentException", "java/lang/IllegalStateException"), ("java/lang/IllegalArgumentException", "java/lang/IndexOutOfBoundsException"), ("java/lang/IllegalStateException", "java/util/NoSuchElementException"), ("java/lang/IllegalStateException", "java/lang/IllegalArgumentException"), ("java/lang/IllegalStateException", "java/lang/IndexOutOfBoundsException"), ("java/lang/IndexOutOfBoundsException", "java/util/NoSuchElementException"), ("java/lang/IndexOutOfBoundsException", "java/lang/IllegalArgumentException"), ("java/lang/IndexOutOfBoundsException", "java/lang/IllegalStateException")]
def mm_Nc (U : State) : Prop := ∀ q ∈ mm_ncL, va_Nc q.1 q.2 U
theorem mm_Nc.warm {s U : State} (hW : s.WarmedH U.vm) (h : mm_Nc s) : mm_Nc U := fun q hq => (h q hq).moved hW.alike
def mm_MW (y : MethodName) (cc : ByteArray) (maxL : Nat) (ret : Option FieldType) (hh : List (Nat × Nat × Nat × Nat)) (d : Nat) (vs : List Value) (h : MH) (o : String ⊕ Option Value) (h1 : MH) : Prop :=
  ∀ (l : Launch) (G : mm_G), l.stackTraces = false → vx_Met l y (.codeWith y cc maxL ret hh :: lw_good) (mm_rm d h) (fun a U => mm_Pc G vs h a U ∧ mm_Nc U) (mm_Qc G h o h1) (mm_XC G h o h1) (h1.2.1 - h.2.1) (h1.2.2 - h.2.2) (mm_A G)
def mm_TW (y : MethodName) (bytes : ByteArray) (maxL : Nat) (ret : Option FieldType) (hh : List (Nat × Nat × Nat × Nat)) (n : Nat) : Prop := Cond.codeWith y bytes maxL ret hh ∈ lw_good ∧ Cond.initialized y.cls ∈ lw_good ∧ plainName y.cls = true ∧ y.cls ≠ "java/lang/invoke/MethodHandle" ∧ y.cls ≠ "java/lang/invoke/VarHandle" ∧ (parseMethodDescriptor y.desc).map (fun d => d.parameters.length) = some n
theorem mD_blind {G : mm_G} {vs : List Value} {h : MH} : FrameBlind (fun a U => mm_Pc G vs h a U ∧ mm_Nc U) := fun a U g mk q => ⟨mm_blind a U g mk q.1, fun z hz => q.2 z hz⟩
def mm_D (hh : List (Nat × Nat × Nat × Nat)) (d : Nat) (y : MethodName) (cc : ByteArray) (nL : Nat) (ret : Option FieldType) (oz : String ⊕ Option Value) (hz : MH) (V : Nat → List (Nat × Value) → List Value → MH → Prop) : Prop :=
  ∃ (p : Program) (l : Launch) (e : Env) (s : State) (m : MethodId) (args : Array Value) (below : List Frame) (meth : Method) (c : Code) (h0 : MH) (G : mm_G),
    (l.stackTraces = false ∧ p.tables.exec = Jvm.exec ∧ c.code = cc ∧ c.maxLocals = nL ∧ meth.sig.returnType = ret ∧ meth.locks = false ∧ s.vm.findClass y.cls = some m.cls ∧ meth.name = y.name ∧ c.exceptionTable.toList = tableOf hh) ∧ (∀ w ∈ lw_good, w.before args s = true) ∧ mm_S G h0 s ∧ mm_Nc s ∧
    V = fun pc lv st h => ∀ (H : Heap) (locs : List Loc) (ls : Array Slot), lv_has ls nL (lv.map fun q => (q.1, mm_v G q.2)) → mm_R G h H → (∀ q ∈ locs, G.2.2.2.size ≤ q.base) → h0.2.1 ≤ h.2.1 → h0.2.2 ≤ h.2.2 →
      W p l e (mm_rm d h0) s m args below meth c H locs (h.2.1 - h0.2.1) (h.2.2 - h0.2.2) (vx_MQ below (mm_Qc G h0 oz hz) (mm_XC G h0 oz hz) args s (hz.2.1 - h0.2.1) (hz.2.2 - h0.2.2) (mm_A G)) (F0 m pc ls (st.map (mm_v G)))
theorem mD_ofV {hh : List (Nat × Nat × Nat × Nat)} {y : MethodName} {cc : ByteArray} {maxL : Nat} {ret : Option FieldType} {d : Nat} {vs : List Value} {h : MH} {o : String ⊕ Option Value} {h1 : MH} (hy : plainName y.cls = true) (hvs : (lg_sl vs).length ≤ maxL)
    (body : ∀ V, mm_D hh d y cc maxL ret o h1 V → V 0 (lv_args 0 vs) [] h) : mm_MW y cc maxL ret hh d vs h o h1 := by
  intro l G hl
  refine vx_ofWH (hh := hh) (cc := cc) (maxL := maxL) (ret := ret) hy rfl ?_
  intro p e s m args below meth c s₁ B hml hv
  obtain ⟨⟨rfl, hS⟩, hNc⟩ := hv
  have hts : ∀ w ∈ lw_good, w.before (vs.map (mm_v G)).toArray s = true := fun w hw => atoms_spec (ws := .codeWith y cc maxL ret hh :: lw_good) B.pre w (List.mem_cons_of_mem _ hw)
  have key := body _ ⟨p, l, e, s, m, (vs.map (mm_v G)).toArray, below, meth, c, h, G, ⟨hl, B.exec, B.bytes, hml, B.returns, B.notSynchronized, findClass_of_methodNamed B.named, (name_of_methodNamed B.named B.method).1, vx_table (x := y) B (atoms_spec (ws := .codeWith y cc maxL ret hh :: lw_good) B.pre _ List.mem_cons_self)⟩, hts, hS, hNc, rfl⟩
  have hlen : (lg_sl (vs.map (mm_v G))).length = (lg_sl vs).length := by
    clear key hts hS B hvs body
    induction vs with
    | nil => rfl
    | cons a t ih => simp only [lg_sl, List.map_cons, List.flatMap_cons, List.length_append, mm_v_cat] at ih ⊢; split <;> simp [ih]
  have hl2 := lv_entry (vs.map (mm_v G)) (n := maxL) (by rw [hlen]; exact hvs)
  rw [lg_entry_eq]
  generalize (lg_sl (vs.map (mm_v G)) ++ List.replicate (maxL - (lg_sl (vs.map (mm_v G))).length) Slot.unset).toArray = ls at hl2 ⊢
  have hargs : ∀ (k : Nat) (vs : List Value), lv_args k (vs.map (mm_v G)) = (lv_args k vs).map fun q => (q.1, mm_v G q.2) := by
    intro k vs
    induction vs generalizing k with
    | nil => rfl
    | cons a t ih => simp only [lv_args, List.map_cons, mm_v_cat, ih]
  rw [hargs] at hl2
  have := key s.heap [] ls hl2 hS.1 (fun q hq => nomatch hq) (Nat.le_refl _) (Nat.le_refl _)
  rw [Nat.sub_self, Nat.sub_self] at this
  exact this
section MDB
variable {l : Launch} {R : Room} {p : Program} {e : Env} {below : List Frame} {s : State} {sargs : Array Value} {y : MethodName} {len W9 : Nat}
theorem mD_back {ws : List Cond} {rm : Room} {Pc : Array Value → State → Prop} {Qc : Array Value → State → Outcome → State → Prop} {XC : String → State → State → Prop} {mc ms : Nat} {free : Addr → Prop} {bytes : ByteArray} {maxL : Nat} {ret : Option FieldType} {hh : List (Nat × Nat × Nat × Nat)}
    (hM : vx_Met l y ws rm Pc Qc XC mc ms free) (hblind : FrameBlind Pc)
    (hframes : rm.frames + 1 ≤ R.frames) (hlocals : W9 + (maxL + 11) + rm.locals ≤ R.locals)
    (hws : ∀ w ∈ ws, ∀ a' U, s.WarmedH U.vm → w.before a' U = true) (hcode : Cond.codeWith y bytes maxL ret hh ∈ ws) (hinit : ∀ a' U, s.WarmedH U.vm → (Cond.initialized y.cls).before a' U = true) :
    vx_Back l R p e below s sargs y len W9 (mm_PreOf R rm Pc) (PostOf Qc mc ms free) (vx_Post XC mc ms free) := by
  intro m meth c A g ig mk a X hg hsize hdg hW hn hp
  have h1 : (headSpec ws rm).pre.before a A.U = true := atoms_intro fun w hw => hws w hw _ _ X.warmed
  have h2 : (Cond.codeWith y bytes maxL ret hh).before a A.U = true := hws _ hcode _ _ X.warmed
  have h3 : (Cond.initialized y.cls).before a A.U = true := hinit _ _ X.warmed
  have h4 : A.cells + (headSpec ws rm).room.cells ≤ R.cells := hp.1
  have h5 : A.slots + (headSpec ws rm).room.slots ≤ R.slots := hp.2.1
  have hPc : Pc a (A.U.calling g mk a) := hblind _ _ _ _ hp.2.2
  obtain ⟨U, Ls, c0, s0⟩ := A
  dsimp only [Pt.U, Pt.locs, Pt.cells, Pt.slots] at h1 h2 h3 h4 h5 X hn hPc ⊢
  obtain ⟨m9, methY, cY, hn9, hmY, hcY, -, hlY, -⟩ := Cond.codeWith_spec h2
  cases Option.some.inj (hn9.symm.trans hn)
  obtain ⟨kY, hkY, -⟩ := className_of_methodNamed hn
  have hinitY : kY.init = .initialized := Cond.initialized_spec (findClass_of_methodNamed hn) hkY h3
  have h : At U g.method c below := by rw [hg]; exact X.here
  have hlocals9 : W9 + (maxL + 11) + (headSpec ws rm).room.locals ≤ R.locals := hlocals
  have happ : (headSpec ws rm).appliesLoose y e.platform (U.calling g mk a) = true :=
    Spec.appliesLoose_calling (g := g) h hdg hn hkY hinitY
      (X.room_calling (g := g) (R' := (headSpec ws rm).room) hsize hmY hcY hframes (by rw [hlY]; omega) h4 h5) h1
  obtain ⟨mid, hmid⟩ := h.above
  have hfr : (U.setTop g).frames = (.java g :: mid) ++ below := by rw [State.frames_setTop' g h.top, hmid]; rfl
  obtain ⟨o, s₂, hsteps, -, hend, hq⟩ := Steps.callFree hM p X.admits X.cas X.clock (acts := []) hfr happ hPc trivial
  have hq' : vx_Q Qc XC mc ms free a (U.calling g mk a) o s₂ := hq
  rw [State.frames_setTop' g h.top] at hend
  obtain ⟨g₀, hg0⟩ := Option.isSome_iff_exists.mp h.top
  obtain ⟨r, hr⟩ := State.topJava?_eq_some.mp hg0
  have hr' : (({ U with heap := s₂.heap, slotsUsed := s₂.slotsUsed } : State).setVm s₂.vm).frames = .java g₀ :: r := hr
  rcases hq' with ⟨hqc, L, hfe, hL⟩ | ⟨q, rfl, E, ce, L, hx, hce, hcv, hcl, hW₂, hsm, hL⟩
  · obtain ⟨⟨v, rfl⟩, hW₂, e2, q2, q3, q4, q5, q6⟩ := id hfe
    have e3 : s₂ = ({ (U.calling g mk a).setFrames s₂.frames with heap := s₂.heap, slotsUsed := s₂.slotsUsed } : State).setVm s₂.vm := by
      have : s₂ = ({ s₂ with vm := (U.calling g mk a).vm } : State).setVm s₂.vm := rfl
      rw [e2] at this
      exact this
    obtain ⟨c₂, i₂, len₂, hc₂, hd₂, hf₂⟩ := hend
    have hW' : U.WarmedH s₂.vm := hW₂
    have hcc : c₂ = c := by
      have h1 : s₂.code? g.method = U.code? g.method := by
        rw [State.code?_eq, State.code?_eq, hW'.alike.method?]
      exact Option.some.inj (hc₂.symm.trans (h1.trans h.code))
    subst hcc
    have hlen : len₂ = len := by rw [hdg] at hd₂; cases hd₂; rfl
    subst hlen
    have hs₂ : s₂ = (({ U with heap := s₂.heap, slotsUsed := s₂.slotsUsed } : State).setVm s₂.vm).setTop { g with pc := g.pc + len₂, stack := v.toList ++ g.stack } := by
      refine e3.trans ?_
      rw [hf₂, State.calling_eq h.top, State.setFrames_setFrames, State.setTop_of_frames _ hr', hr]
      rfl
    have hsame : U.sameButNew ({ U with heap := s₂.heap, slotsUsed := s₂.slotsUsed } : State) L mc ms := by
      refine ⟨?_, q2, q3, q4, q5, q6⟩
      obtain ⟨t, ht, -⟩ := State.frames_cons hr
      show ({ U with heap := s₂.heap, slotsUsed := s₂.slotsUsed } : State) = { U.setFrames U.frames with heap := s₂.heap, slotsUsed := s₂.slotsUsed }
      rw [State.setFrames_self ht]
    subst hg
    refine Or.inl ⟨v, ⟨(({ U with heap := s₂.heap, slotsUsed := s₂.slotsUsed } : State).setVm s₂.vm), Ls ++ L, c0 + mc, s0 + ms⟩,
      ⟨X.admits, X.cas, X.clock, X.frames, X.room, X.hears, X.method, X.code, (X.here.setHeapUsed s₂.heap s₂.slotsUsed).setVm hW'.alike, X.tail, State.WarmedH.trans X.warmed hW', X.limits, X.bytes, X.same.trans (hsame.setVm s.vm)⟩,
      ⟨g, mk, s₂, L, rfl, rfl, hqc, rfl, hL, rfl, rfl⟩, ?_⟩
    show Steps p.tables e below _ ((({ U with heap := s₂.heap, slotsUsed := s₂.slotsUsed } : State).setVm s₂.vm).setTop { g with pc := g.pc + len₂, stack := v.toList ++ g.stack })
    rw [← hs₂]
    exact hsteps
  · obtain ⟨e2, q2, q3, q4, q5, q6⟩ := id hsm
    have e3 : s₂ = ({ (U.calling g mk a).setFrames s₂.frames with heap := s₂.heap, slotsUsed := s₂.slotsUsed } : State).setVm s₂.vm := by
      have : s₂ = ({ s₂ with vm := (U.calling g mk a).vm } : State).setVm s₂.vm := rfl
      rw [e2] at this
      exact this
    have hf₂ : s₂.frames = .throwing q :: .java g :: U.frames.tail := hend
    have hW' : U.WarmedH s₂.vm := hW₂
    have hs₂ : s₂ = ((({ U with heap := s₂.heap, slotsUsed := s₂.slotsUsed } : State).setVm s₂.vm).setTop g).pushFrame (.throwing q) := by
      refine e3.trans ?_
      rw [hf₂, State.calling_eq h.top, State.setFrames_setFrames, State.pushFrame, State.frames_setTop _ hr', State.setTop_of_frames _ hr', State.setFrames_setFrames, hr]
      rfl
    have hsame : U.sameButNew ({ U with heap := s₂.heap, slotsUsed := s₂.slotsUsed } : State) L mc ms := by
      refine ⟨?_, q2, q3, q4, q5, q6⟩
      obtain ⟨t, ht, -⟩ := State.frames_cons hr
      show ({ U with heap := s₂.heap, slotsUsed := s₂.slotsUsed } : State) = { U.setFrames U.frames with heap := s₂.heap, slotsUsed := s₂.slotsUsed }
      rw [State.setFrames_self ht]
    subst hg
    refine Or.inr ⟨q, ⟨(({ U with heap := s₂.heap, slotsUsed := s₂.slotsUsed } : State).setVm s₂.vm), Ls ++ L, c0 + mc, s0 + ms⟩,
      ⟨X.admits, X.cas, X.clock, X.frames, X.room, X.hears, X.method, X.code, (X.here.setHeapUsed s₂.heap s₂.slotsUsed).setVm hW'.alike, X.tail, State.WarmedH.trans X.warmed hW', X.limits, X.bytes, X.same.trans (hsame.setVm s.vm)⟩,
      ⟨g, mk, s₂, L, E, ce, rfl, rfl, hx, hce, hcv, hcl, rfl, hL, rfl, rfl⟩, ?_⟩
    show Steps p.tables e below _ (((({ U with heap := s₂.heap, slotsUsed := s₂.slotsUsed } : State).setVm s₂.vm).setTop g).pushFrame (.throwing q))
    rw [← hs₂]
    exact hsteps
end MDB
theorem mD_callback {hh : List (Nat × Nat × Nat × Nat)} {y : MethodName} {bytes : ByteArray} {maxL n d d1 : Nat} {rk : Option FieldType} {vs : List Value} {h h1 h0 : MH} {o : String ⊕ Option Value} {l : Launch} {G : mm_G} {p : Program} {e : Env} {below : List Frame} {s : State} {args : Array Value} (hM : mm_MW y bytes maxL rk hh d1 vs h o h1) (hT : mm_TW y bytes maxL rk hh n) (hts : ∀ w ∈ lw_good, w.before args s = true) (hsl : l.stackTraces = false) (hdd : d1 + 1 ≤ d) (hmx : maxL ≤ 80) :
    vx_Back l (mm_rm d h0) p e below s args y 3 8 (mm_PreOf (mm_rm d h0) (mm_rm d1 h) (fun a U => mm_Pc G vs h a U ∧ mm_Nc U)) (PostOf (mm_Qc G h o h1) (h1.2.1 - h.2.1) (h1.2.2 - h.2.2) (mm_A G)) (vx_Post (mm_XC G h o h1) (h1.2.1 - h.2.1) (h1.2.2 - h.2.2) (mm_A G)) := by
  have hcw : Cond.codeWith y bytes maxL rk hh ∈ (.codeWith y bytes maxL rk hh :: lw_good) := List.mem_cons_self
  have hg : GoodIn lw_good (.codeWith y bytes maxL rk hh :: lw_good) := fun w hw => by
    rcases List.mem_cons.mp hw with rfl | h9
    · exact lw_goodIn _ hT.1
    · exact lw_goodIn _ h9
  exact mD_back (hh := hh) (bytes := bytes) (maxL := maxL) (ret := rk) (hM l G hsl) mD_blind (by show d1 + 1 ≤ d; exact hdd) (by show 8 + (maxL + 11) + 100 * d1 ≤ 100 * d; omega) (pay_in hts hg) hcw (fun a' U hW => pay_in hts lw_goodIn _ hT.2.1 a' U hW)
section MDR
variable {hh : List (Nat × Nat × Nat × Nat)} {d : Nat} {y : MethodName} {cc : ByteArray} {nL : Nat} {ret : Option FieldType} {oz : String ⊕ Option Value} {hz : MH} {V : Nat → List (Nat × Value) → List Value → MH → Prop} {pc : Nat} {lv lv' : List (Nat × Value)} {st stk : List Value} {h h1 : MH} {r w : Option Nat} {hq : List (Nat × Nat × Nat × Nat)}
theorem mD_iadd (C : mm_D hh d y cc nL ret oz hz V) {x z : Int32} (hd : decode cc pc = .ok (.iadd, 1)) (k : V (pc + 1) lv (.int (x + z) :: st) h) : V pc lv (.int z :: .int x :: st) h := by
  obtain ⟨p, l, e, s, m, args, below, meth, c, h0, G, ⟨hsl, hx, hb, hml, hr, hlk, hown, hnm, htab⟩, hts, hS, hNc, rfl⟩ := C
  intro H locs ls hls a1 a2 a3 a4
  exact lv_iadd hx hb hd (k H locs ls hls a1 a2 a3 a4)
theorem mD_isub (C : mm_D hh d y cc nL ret oz hz V) {x z : Int32} (hd : decode cc pc = .ok (.isub, 1)) (k : V (pc + 1) lv (.int (x - z) :: st) h) : V pc lv (.int z :: .int x :: st) h := by
  obtain ⟨p, l, e, s, m, args, below, meth, c, h0, G, ⟨hsl, hx, hb, hml, hr, hlk, hown, hnm, htab⟩, hts, hS, hNc, rfl⟩ := C
  intro H locs ls hls a1 a2 a3 a4
  exact lv_isub hx hb hd (k H locs ls hls a1 a2 a3 a4)
theorem mD_imul (C : mm_D hh d y cc nL ret oz hz V) {x z : Int32} (hd : decode cc pc = .ok (.imul, 1)) (k : V (pc + 1) lv (.int (x * z) :: st) h) : V pc lv (.int z :: .int x :: st) h := by
  obtain ⟨p, l, e, s, m, args, below, meth, c, h0, G, ⟨hsl, hx, hb, hml, hr, hlk, hown, hnm, htab⟩, hts, hS, hNc, rfl⟩ := C
  intro H locs ls hls a1 a2 a3 a4
  exact lv_imul hx hb hd (k H locs ls hls a1 a2 a3 a4)
theorem mD_iand (C : mm_D hh d y cc nL ret oz hz V) {x z : Int32} (hd : decode cc pc = .ok (.iand, 1)) (k : V (pc + 1) lv (.int (x &&& z) :: st) h) : V pc lv (.int z :: .int x :: st) h := by
  obtain ⟨p, l, e, s, m, args, below, meth, c, h0, G, ⟨hsl, hx, hb, hml, hr, hlk, hown, hnm, htab⟩, hts, hS, hNc, rfl⟩ := C
  intro H locs ls hls a1 a2 a3 a4
  exact lv_iand hx hb hd (k H locs ls hls a1 a2 a3 a4)
theorem mD_ior (C : mm_D hh d y cc nL ret oz hz V) {x z : Int32} (hd : decode cc pc = .ok (.ior, 1)) (k : V (pc + 1) lv (.int (x ||| z) :: st) h) : V pc lv (.int z :: .int x :: st) h := by
  obtain ⟨p, l, e, s, m, args, below, meth, c, h0, G, ⟨hsl, hx, hb, hml, hr, hlk, hown, hnm, htab⟩, hts, hS, hNc, rfl⟩ := C
  intro H locs ls hls a1 a2 a3 a4
  exact lv_ior hx hb hd (k H locs ls hls a1 a2 a3 a4)
theorem mD_ixor (C : mm_D hh d y cc nL ret oz hz V) {x z : Int32} (hd : decode cc pc = .ok (.ixor, 1)) (k : V (pc + 1) lv (.int (x ^^^ z) :: st) h) : V pc lv (.int z :: .int x :: st) h := by
  obtain ⟨p, l, e, s, m, args, below, meth, c, h0, G, ⟨hsl, hx, hb, hml, hr, hlk, hown, hnm, htab⟩, hts, hS, hNc, rfl⟩ := C
  intro H locs ls hls a1 a2 a3 a4
  exact lv_ixor hx hb hd (k H locs ls hls a1 a2 a3 a4)
theorem mD_ishl (C : mm_D hh d y cc nL ret oz hz V) {x z : Int32} (hd : decode cc pc = .ok (.ishl, 1)) (k : V (pc + 1) lv (.int (x <<< (z &&& 31)) :: st) h) : V pc lv (.int z :: .int x :: st) h := by
  obtain ⟨p, l, e, s, m, args, below, meth, c, h0, G, ⟨hsl, hx, hb, hml, hr, hlk, hown, hnm, htab⟩, hts, hS, hNc, rfl⟩ := C
  intro H locs ls hls a1 a2 a3 a4
  exact lv_ishl hx hb hd (k H locs ls hls a1 a2 a3 a4)
theorem mD_ishr (C : mm_D hh d y cc nL ret oz hz V) {x z : Int32} (hd : decode cc pc = .ok (.ishr, 1)) (k : V (pc + 1) lv (.int (x >>> (z &&& 31)) :: st) h) : V pc lv (.int z :: .int x :: st) h := by
  obtain ⟨p, l, e, s, m, args, below, meth, c, h0, G, ⟨hsl, hx, hb, hml, hr, hlk, hown, hnm, htab⟩, hts, hS, hNc, rfl⟩ := C
  intro H locs ls hls a1 a2 a3 a4
  exact lv_ishr hx hb hd (k H locs ls hls a1 a2 a3 a4)
theorem mD_iushr (C : mm_D hh d y cc nL ret oz hz V) {x z : Int32} (hd : decode cc pc = .ok (.iushr, 1)) (k : V (pc + 1) lv (.int ((x.toUInt32 >>> (z.toUInt32 &&& Int32.toUInt32 31)).toInt32) :: st) h) : V pc lv (.int z :: .int x :: st) h := by
  obtain ⟨p, l, e, s, m, args, below, meth, c, h0, G, ⟨hsl, hx, hb, hml, hr, hlk, hown, hnm, htab⟩, hts, hS, hNc, rfl⟩ := C
  intro H locs ls hls a1 a2 a3 a4
  exact lv_iushr hx hb hd rfl (k H locs ls hls a1 a2 a3 a4)
theorem mD_idiv (C : mm_D hh d y cc nL ret oz hz V) {x z : Int32} (hd : decode cc pc = .ok (.idiv, 1)) (hne : ¬ z = 0) (k : V (pc + 1) lv (.int (x / z) :: st) h) : V pc lv (.int z :: .int x :: st) h := by
  obtain ⟨p, l, e, s, m, args, below, meth, c, h0, G, ⟨hsl, hx, hb, hml, hr, hlk, hown, hnm, htab⟩, hts, hS, hNc, rfl⟩ := C
  intro H locs ls hls a1 a2 a3 a4
  exact lv_idiv hx hb hd hne (k H locs ls hls a1 a2 a3 a4)
theorem mD_irem (C : mm_D hh d y cc nL ret oz hz V) {x z : Int32} (hd : decode cc pc = .ok (.irem, 1)) (hne : ¬ z = 0) (k : V (pc + 1) lv (.int (x - x / z * z) :: st) h) : V pc lv (.int z :: .int x :: st) h := by
  obtain ⟨p, l, e, s, m, args, below, meth, c, h0, G, ⟨hsl, hx, hb, hml, hr, hlk, hown, hnm, htab⟩, hts, hS, hNc, rfl⟩ := C
  intro H locs ls hls a1 a2 a3 a4
  exact lv_irem hx hb hd hne (k H locs ls hls a1 a2 a3 a4)
theorem mD_ineg (C : mm_D hh d y cc nL ret oz hz V) {x : Int32} (hd : decode cc pc = .ok (.ineg, 1)) (k : V (pc + 1) lv (.int (-x) :: st) h) : V pc lv (.int x :: st) h := by
  obtain ⟨p, l, e, s, m, args, below, meth, c, h0, G, ⟨hsl, hx, hb, hml, hr, hlk, hown, hnm, htab⟩, hts, hS, hNc, rfl⟩ := C
  intro H locs ls hls a1 a2 a3 a4
  exact lv_ineg hx hb hd (k H locs ls hls a1 a2 a3 a4)
theorem mD_ladd (C : mm_D hh d y cc nL ret oz hz V) {x z : Int64} (hd : decode cc pc = .ok (.ladd, 1)) (k : V (pc + 1) lv (.long (x + z) :: st) h) : V pc lv (.long z :: .long x :: st) h := by
  obtain ⟨p, l, e, s, m, args, below, meth, c, h0, G, ⟨hsl, hx, hb, hml, hr, hlk, hown, hnm, htab⟩, hts, hS, hNc, rfl⟩ := C
  intro H locs ls hls a1 a2 a3 a4
  exact lv_ladd hx hb hd (k H locs ls hls a1 a2 a3 a4)
theorem mD_lsub (C : mm_D hh d y cc nL ret oz hz V) {x z : Int64} (hd : decode cc pc = .ok (.lsub, 1)) (k : V (pc + 1) lv (.long (x - z) :: st) h) : V pc lv (.long z :: .long x :: st) h := by
  obtain ⟨p, l, e, s, m, args, below, meth, c, h0, G, ⟨hsl, hx, hb, hml, hr, hlk, hown, hnm, htab⟩, hts, hS, hNc, rfl⟩ := C
  intro H locs ls hls a1 a2 a3 a4
  exact lv_lsub hx hb hd (k H locs ls hls a1 a2 a3 a4)
theorem mD_lmul (C : mm_D hh d y cc nL ret oz hz V) {x z : Int64} (hd : decode cc pc = .ok (.lmul, 1)) (k : V (pc + 1) lv (.long (x * z) :: st) h) : V pc lv (.long z :: .long x :: st) h := by
  obtain ⟨p, l, e, s, m, args, below, meth, c, h0, G, ⟨hsl, hx, hb, hml, hr, hlk, hown, hnm, htab⟩, hts, hS, hNc, rfl⟩ := C
  intro H locs ls hls a1 a2 a3 a4
  exact lv_lmul hx hb hd (k H locs ls hls a1 a2 a3 a4)
theorem mD_land (C : mm_D hh d y cc nL ret oz hz V) {x z : Int64} (hd : decode cc pc = .ok (.land, 1)) (k : V (pc + 1) lv (.long (x &&& z) :: st) h) : V pc lv (.long z :: .long x :: st) h := by
  obtain ⟨p, l, e, s, m, args, below, meth, c, h0, G, ⟨hsl, hx, hb, hml, hr, hlk, hown, hnm, htab⟩, hts, hS, hNc, rfl⟩ := C
  intro H locs ls hls a1 a2 a3 a4
  exact lv_land hx hb hd (k H locs ls hls a1 a2 a3 a4)
theorem mD_lor (C : mm_D hh d y cc nL ret oz hz V) {x z : Int64} (hd : decode cc pc = .ok (.lor, 1)) (k : V (pc + 1) lv (.long (x ||| z) :: st) h) : V pc lv (.long z :: .long x :: st) h := by
  obtain ⟨p, l, e, s, m, args, below, meth, c, h0, G, ⟨hsl, hx, hb, hml, hr, hlk, hown, hnm, htab⟩, hts, hS, hNc, rfl⟩ := C
  intro H locs ls hls a1 a2 a3 a4
  exact lv_lor hx hb hd (k H locs ls hls a1 a2 a3 a4)
theorem mD_ldiv (C : mm_D hh d y cc nL ret oz hz V) {x z : Int64} (hd : decode cc pc = .ok (.ldiv, 1)) (hne : ¬ z = 0) (k : V (pc + 1) lv (.long (x / z) :: st) h) : V pc lv (.long z :: .long x :: st) h := by
  obtain ⟨p, l, e, s, m, args, below, meth, c, h0, G, ⟨hsl, hx, hb, hml, hr, hlk, hown, hnm, htab⟩, hts, hS, hNc, rfl⟩ := C
  intro H locs ls hls a1 a2 a3 a4
  exact lv_ldiv hx hb hd hne (k H locs ls hls a1 a2 a3 a4)
theorem mD_lrem (C : mm_D hh d y cc nL ret oz hz V) {x z : Int64} (hd : decode cc pc = .ok (.lrem, 1)) (hne : ¬ z = 0) (k : V (pc + 1) lv (.long (x - x / z * z) :: st) h) : V pc lv (.long z :: .long x :: st) h := by
  obtain ⟨p, l, e, s, m, args, below, meth, c, h0, G, ⟨hsl, hx, hb, hml, hr, hlk, hown, hnm, htab⟩, hts, hS, hNc, rfl⟩ := C
  intro H locs ls hls a1 a2 a3 a4
  exact lv_lrem hx hb hd hne (k H locs ls hls a1 a2 a3 a4)
theorem mD_lshl (C : mm_D hh d y cc nL ret oz hz V) {x : Int64} {z : Int32} (hd : decode cc pc = .ok (.lshl, 1)) (k : V (pc + 1) lv (.long (x <<< (z.toInt64 &&& 63)) :: st) h) : V pc lv (.int z :: .long x :: st) h := by
  obtain ⟨p, l, e, s, m, args, below, meth, c, h0, G, ⟨hsl, hx, hb, hml, hr, hlk, hown, hnm, htab⟩, hts, hS, hNc, rfl⟩ := C
  intro H locs ls hls a1 a2 a3 a4
  exact lv_lshl hx hb hd rfl (k H locs ls hls a1 a2 a3 a4)
theorem mD_lshr (C : mm_D hh d y cc nL ret oz hz V) {x : Int64} {z : Int32} (hd : decode cc pc = .ok (.lshr, 1)) (k : V (pc + 1) lv (.long (x >>> (z.toInt64 &&& 63)) :: st) h) : V pc lv (.int z :: .long x :: st) h := by
  obtain ⟨p, l, e, s, m, args, below, meth, c, h0, G, ⟨hsl, hx, hb, hml, hr, hlk, hown, hnm, htab⟩, hts, hS, hNc, rfl⟩ := C
  intro H locs ls hls a1 a2 a3 a4
  exact lv_lshr hx hb hd rfl (k H locs ls hls a1 a2 a3 a4)
theorem mD_lcmp (C : mm_D hh d y cc nL ret oz hz V) {x z : Int64} (hd : decode cc pc = .ok (.lcmp, 1)) (k : V (pc + 1) lv (.int (lg_cmp x z) :: st) h) : V pc lv (.long z :: .long x :: st) h := by
  obtain ⟨p, l, e, s, m, args, below, meth, c, h0, G, ⟨hsl, hx, hb, hml, hr, hlk, hown, hnm, htab⟩, hts, hS, hNc, rfl⟩ := C
  intro H locs ls hls a1 a2 a3 a4
  exact W.lcmp hx hb hd (k H locs ls hls a1 a2 a3 a4)
theorem mD_i2l (C : mm_D hh d y cc nL ret oz hz V) {x : Int32} (hd : decode cc pc = .ok (.i2l, 1)) (k : V (pc + 1) lv (.long x.toInt64 :: st) h) : V pc lv (.int x :: st) h := by
  obtain ⟨p, l, e, s, m, args, below, meth, c, h0, G, ⟨hsl, hx, hb, hml, hr, hlk, hown, hnm, htab⟩, hts, hS, hNc, rfl⟩ := C
  intro H locs ls hls a1 a2 a3 a4
  exact lv_i2l hx hb hd rfl (k H locs ls hls a1 a2 a3 a4)
theorem mD_l2i (C : mm_D hh d y cc nL ret oz hz V) {x : Int64} (hd : decode cc pc = .ok (.l2i, 1)) (k : V (pc + 1) lv (.int x.toInt32 :: st) h) : V pc lv (.long x :: st) h := by
  obtain ⟨p, l, e, s, m, args, below, meth, c, h0, G, ⟨hsl, hx, hb, hml, hr, hlk, hown, hnm, htab⟩, hts, hS, hNc, rfl⟩ := C
  intro H locs ls hls a1 a2 a3 a4
  exact lv_l2i hx hb hd rfl (k H locs ls hls a1 a2 a3 a4)
theorem mD_i2b (C : mm_D hh d y cc nL ret oz hz V) {x : Int32} (hd : decode cc pc = .ok (.i2b, 1)) (k : V (pc + 1) lv (.int x.toInt8.toInt32 :: st) h) : V pc lv (.int x :: st) h := by
  obtain ⟨p, l, e, s, m, args, below, meth, c, h0, G, ⟨hsl, hx, hb, hml, hr, hlk, hown, hnm, htab⟩, hts, hS, hNc, rfl⟩ := C
  intro H locs ls hls a1 a2 a3 a4
  exact lv_i2b hx hb hd rfl (k H locs ls hls a1 a2 a3 a4)
theorem mD_i2s (C : mm_D hh d y cc nL ret oz hz V) {x : Int32} (hd : decode cc pc = .ok (.i2s, 1)) (k : V (pc + 1) lv (.int x.toInt16.toInt32 :: st) h) : V pc lv (.int x :: st) h := by
  obtain ⟨p, l, e, s, m, args, below, meth, c, h0, G, ⟨hsl, hx, hb, hml, hr, hlk, hown, hnm, htab⟩, hts, hS, hNc, rfl⟩ := C
  intro H locs ls hls a1 a2 a3 a4
  exact lv_i2s hx hb hd rfl (k H locs ls hls a1 a2 a3 a4)
theorem mD_i2c (C : mm_D hh d y cc nL ret oz hz V) {x : Int32} (hd : decode cc pc = .ok (.i2c, 1)) (k : V (pc + 1) lv (.int (x.toUInt32 % 65536).toInt32 :: st) h) : V pc lv (.int x :: st) h := by
  obtain ⟨p, l, e, s, m, args, below, meth, c, h0, G, ⟨hsl, hx, hb, hml, hr, hlk, hown, hnm, htab⟩, hts, hS, hNc, rfl⟩ := C
  intro H locs ls hls a1 a2 a3 a4
  exact lv_i2c hx hb hd rfl (k H locs ls hls a1 a2 a3 a4)
theorem mD_iconst (C : mm_D hh d y cc nL ret oz hz V) {n : Int} {v : Int32} (hd : decode cc pc = .ok (.iconst n, 1)) (hv : Int32.ofInt n = v) (k : V (pc + 1) lv (.int v :: st) h) : V pc lv (st) h := by
  obtain ⟨p, l, e, s, m, args, below, meth, c, h0, G, ⟨hsl, hx, hb, hml, hr, hlk, hown, hnm, htab⟩, hts, hS, hNc, rfl⟩ := C
  intro H locs ls hls a1 a2 a3 a4
  exact lv_iconst hx hb hd hv (k H locs ls hls a1 a2 a3 a4)
theorem mD_bipush (C : mm_D hh d y cc nL ret oz hz V) {n : Int} {v : Int32} (hd : decode cc pc = .ok (.bipush n, 2)) (hv : (Int8.ofInt n).toInt32 = v) (k : V (pc + 2) lv (.int v :: st) h) : V pc lv (st) h := by
  obtain ⟨p, l, e, s, m, args, below, meth, c, h0, G, ⟨hsl, hx, hb, hml, hr, hlk, hown, hnm, htab⟩, hts, hS, hNc, rfl⟩ := C
  intro H locs ls hls a1 a2 a3 a4
  exact lv_bipush hx hb hd hv (k H locs ls hls a1 a2 a3 a4)
theorem mD_sipush (C : mm_D hh d y cc nL ret oz hz V) {n : Int} {v : Int32} (hd : decode cc pc = .ok (.sipush n, 3)) (hv : (Int16.ofInt n).toInt32 = v) (k : V (pc + 3) lv (.int v :: st) h) : V pc lv (st) h := by
  obtain ⟨p, l, e, s, m, args, below, meth, c, h0, G, ⟨hsl, hx, hb, hml, hr, hlk, hown, hnm, htab⟩, hts, hS, hNc, rfl⟩ := C
  intro H locs ls hls a1 a2 a3 a4
  exact lv_sipush hx hb hd hv (k H locs ls hls a1 a2 a3 a4)
theorem mD_lconst (C : mm_D hh d y cc nL ret oz hz V) {n : Fin 2} {v : Int64} (hd : decode cc pc = .ok (.lconst n, 1)) (hv : Int64.ofNat (n : Nat) = v) (k : V (pc + 1) lv (.long v :: st) h) : V pc lv (st) h := by
  obtain ⟨p, l, e, s, m, args, below, meth, c, h0, G, ⟨hsl, hx, hb, hml, hr, hlk, hown, hnm, htab⟩, hts, hS, hNc, rfl⟩ := C
  intro H locs ls hls a1 a2 a3 a4
  exact lv_lconst hx hb hd hv (k H locs ls hls a1 a2 a3 a4)
theorem mD_null (C : mm_D hh d y cc nL ret oz hz V)  (hd : decode cc pc = .ok (.aconst_null, 1)) (k : V (pc + 1) lv (va_rf none :: st) h) : V pc lv (st) h := by
  obtain ⟨p, l, e, s, m, args, below, meth, c, h0, G, ⟨hsl, hx, hb, hml, hr, hlk, hown, hnm, htab⟩, hts, hS, hNc, rfl⟩ := C
  intro H locs ls hls a1 a2 a3 a4
  exact lv_null hx hb hd (k H locs ls hls a1 a2 a3 a4)
theorem mD_ldc (C : mm_D hh d y cc nL ret oz hz V) {i : Nat} {v : Int32} (hd : decode cc pc = .ok (.ldc i, 2)) (hw : Cond.constant y.cls i v ∈ lw_good) (k : V (pc + 2) lv (.int v :: st) h) : V pc lv (st) h := by
  obtain ⟨p, l, e, s, m, args, below, meth, c, h0, G, ⟨hsl, hx, hb, hml, hr, hlk, hown, hnm, htab⟩, hts, hS, hNc, rfl⟩ := C
  intro H locs ls hls a1 a2 a3 a4
  exact lv_ldc hx hb hown (hts _ hw) hd (k H locs ls hls a1 a2 a3 a4)
theorem mD_ldcw (C : mm_D hh d y cc nL ret oz hz V) {i : Nat} {v : Int32} (hd : decode cc pc = .ok (.ldc_w i, 3)) (hw : Cond.constant y.cls i v ∈ lw_good) (k : V (pc + 3) lv (.int v :: st) h) : V pc lv (st) h := by
  obtain ⟨p, l, e, s, m, args, below, meth, c, h0, G, ⟨hsl, hx, hb, hml, hr, hlk, hown, hnm, htab⟩, hts, hS, hNc, rfl⟩ := C
  intro H locs ls hls a1 a2 a3 a4
  exact lv_ldcw hx hb hown (hts _ hw) hd (k H locs ls hls a1 a2 a3 a4)
theorem mD_ldc2 (C : mm_D hh d y cc nL ret oz hz V) {i : Nat} {v : Int64} (hd : decode cc pc = .ok (.ldc2_w i, 3)) (hw : Cond.constantLong y.cls i v ∈ lw_good) (k : V (pc + 3) lv (.long v :: st) h) : V pc lv (st) h := by
  obtain ⟨p, l, e, s, m, args, below, meth, c, h0, G, ⟨hsl, hx, hb, hml, hr, hlk, hown, hnm, htab⟩, hts, hS, hNc, rfl⟩ := C
  intro H locs ls hls a1 a2 a3 a4
  exact lv_ldc2 hx hb hown (hts _ hw) hd (k H locs ls hls a1 a2 a3 a4)
theorem mD_dup (C : mm_D hh d y cc nL ret oz hz V) {v : Value} (hd : decode cc pc = .ok (.dup, 1)) (hv : v.category = 1) (k : V (pc + 1) lv (v :: v :: st) h) : V pc lv (v :: st) h := by
  obtain ⟨p, l, e, s, m, args, below, meth, c, h0, G, ⟨hsl, hx, hb, hml, hr, hlk, hown, hnm, htab⟩, hts, hS, hNc, rfl⟩ := C
  intro H locs ls hls a1 a2 a3 a4
  exact lv_dup hx hb hd (by rw [mm_v_cat]; exact hv) (k H locs ls hls a1 a2 a3 a4)
theorem mD_pop (C : mm_D hh d y cc nL ret oz hz V) {v : Value} (hd : decode cc pc = .ok (.pop, 1)) (hv : v.category = 1) (k : V (pc + 1) lv (st) h) : V pc lv (v :: st) h := by
  obtain ⟨p, l, e, s, m, args, below, meth, c, h0, G, ⟨hsl, hx, hb, hml, hr, hlk, hown, hnm, htab⟩, hts, hS, hNc, rfl⟩ := C
  intro H locs ls hls a1 a2 a3 a4
  exact lv_pop hx hb hd (by rw [mm_v_cat]; exact hv) (k H locs ls hls a1 a2 a3 a4)
theorem mD_pop2 (C : mm_D hh d y cc nL ret oz hz V) {v : Value} (hd : decode cc pc = .ok (.pop2, 1)) (hv : v.category = 2) (k : V (pc + 1) lv (st) h) : V pc lv (v :: st) h := by
  obtain ⟨p, l, e, s, m, args, below, meth, c, h0, G, ⟨hsl, hx, hb, hml, hr, hlk, hown, hnm, htab⟩, hts, hS, hNc, rfl⟩ := C
  intro H locs ls hls a1 a2 a3 a4
  exact lv_pop2_2 hx hb hd (by rw [mm_v_cat]; exact hv) (k H locs ls hls a1 a2 a3 a4)
theorem mD_dup2 (C : mm_D hh d y cc nL ret oz hz V) {v w : Value} (hd : decode cc pc = .ok (.dup2, 1)) (hv : v.category = 1) (hw : w.category = 1) (k : V (pc + 1) lv (v :: w :: v :: w :: st) h) : V pc lv (v :: w :: st) h := by
  obtain ⟨p, l, e, s, m, args, below, meth, c, h0, G, ⟨hsl, hx, hb, hml, hr, hlk, hown, hnm, htab⟩, hts, hS, hNc, rfl⟩ := C
  intro H locs ls hls a1 a2 a3 a4
  exact lv_dup2_11 hx hb hd (by rw [mm_v_cat]; exact hv) (by rw [mm_v_cat]; exact hw) (k H locs ls hls a1 a2 a3 a4)
theorem mD_dup2l (C : mm_D hh d y cc nL ret oz hz V) {v : Value} (hd : decode cc pc = .ok (.dup2, 1)) (hv : v.category = 2) (k : V (pc + 1) lv (v :: v :: st) h) : V pc lv (v :: st) h := by
  obtain ⟨p, l, e, s, m, args, below, meth, c, h0, G, ⟨hsl, hx, hb, hml, hr, hlk, hown, hnm, htab⟩, hts, hS, hNc, rfl⟩ := C
  intro H locs ls hls a1 a2 a3 a4
  exact lv_dup2_2 hx hb hd (by rw [mm_v_cat]; exact hv) (k H locs ls hls a1 a2 a3 a4)
theorem mD_iload_n (C : mm_D hh d y cc nL ret oz hz V) {q : Fin 4} {x : Int32} (j : Nat) (hd : decode cc pc = .ok (.iload_n q, 1)) (hj : lv[j]? = some ((q : Nat), .int x)) (k : V (pc + 1) lv (.int x :: st) h) : V pc lv (st) h := by
  obtain ⟨p, l, e, s, m, args, below, meth, c, h0, G, ⟨hsl, hx, hb, hml, hr, hlk, hown, hnm, htab⟩, hts, hS, hNc, rfl⟩ := C
  intro H locs ls hls a1 a2 a3 a4
  exact lv_iload_n hx hb hd rfl (lv_at hls j (mm_lv hj)) (k H locs ls hls a1 a2 a3 a4)
theorem mD_iload (C : mm_D hh d y cc nL ret oz hz V) {q : Nat} {x : Int32} (j : Nat) (hd : decode cc pc = .ok (.iload q, 2)) (hj : lv[j]? = some (q, .int x)) (k : V (pc + 2) lv (.int x :: st) h) : V pc lv (st) h := by
  obtain ⟨p, l, e, s, m, args, below, meth, c, h0, G, ⟨hsl, hx, hb, hml, hr, hlk, hown, hnm, htab⟩, hts, hS, hNc, rfl⟩ := C
  intro H locs ls hls a1 a2 a3 a4
  exact lv_iload hx hb hd (lv_at hls j (mm_lv hj)) (k H locs ls hls a1 a2 a3 a4)
theorem mD_lload_n (C : mm_D hh d y cc nL ret oz hz V) {q : Fin 4} {x : Int64} (j : Nat) (hd : decode cc pc = .ok (.lload_n q, 1)) (hj : lv[j]? = some ((q : Nat), .long x)) (k : V (pc + 1) lv (.long x :: st) h) : V pc lv (st) h := by
  obtain ⟨p, l, e, s, m, args, below, meth, c, h0, G, ⟨hsl, hx, hb, hml, hr, hlk, hown, hnm, htab⟩, hts, hS, hNc, rfl⟩ := C
  intro H locs ls hls a1 a2 a3 a4
  exact lv_lload_n hx hb hd rfl (lv_at hls j (mm_lv hj)) (k H locs ls hls a1 a2 a3 a4)
theorem mD_lload (C : mm_D hh d y cc nL ret oz hz V) {q : Nat} {x : Int64} (j : Nat) (hd : decode cc pc = .ok (.lload q, 2)) (hj : lv[j]? = some (q, .long x)) (k : V (pc + 2) lv (.long x :: st) h) : V pc lv (st) h := by
  obtain ⟨p, l, e, s, m, args, below, meth, c, h0, G, ⟨hsl, hx, hb, hml, hr, hlk, hown, hnm, htab⟩, hts, hS, hNc, rfl⟩ := C
  intro H locs ls hls a1 a2 a3 a4
  exact lv_lload hx hb hd (lv_at hls j (mm_lv hj)) (k H locs ls hls a1 a2 a3 a4)
theorem mD_aload_n (C : mm_D hh d y cc nL ret oz hz V) {q : Fin 4} {r : Option Nat} (j : Nat) (hd : decode cc pc = .ok (.aload_n q, 1)) (hj : lv[j]? = some ((q : Nat), va_rf r)) (k : V (pc + 1) lv (va_rf r :: st) h) : V pc lv st h := by
  obtain ⟨p, l, e, s, m, args, below, meth, c, h0, G, ⟨hsl, hx, hb, hml, hr, hlk, hown, hnm, htab⟩, hts, hS, hNc, rfl⟩ := C
  intro H locs ls hls a1 a2 a3 a4
  have h9 := lv_at hls j (mm_lv hj)
  have h8 := k H locs ls hls a1 a2 a3 a4
  cases r with
  | none => exact lv_aload_nN hx hb hd rfl h9 h8
  | some b => exact lv_aload_n hx hb hd rfl h9 h8
theorem mD_aload (C : mm_D hh d y cc nL ret oz hz V) {q : Nat} {r : Option Nat} (j : Nat) (hd : decode cc pc = .ok (.aload q, 2)) (hj : lv[j]? = some (q, va_rf r)) (k : V (pc + 2) lv (va_rf r :: st) h) : V pc lv st h := by
  obtain ⟨p, l, e, s, m, args, below, meth, c, h0, G, ⟨hsl, hx, hb, hml, hr, hlk, hown, hnm, htab⟩, hts, hS, hNc, rfl⟩ := C
  intro H locs ls hls a1 a2 a3 a4
  have h9 := lv_at hls j (mm_lv hj)
  have h8 := k H locs ls hls a1 a2 a3 a4
  cases r with
  | none => exact lv_aloadN hx hb hd h9 h8
  | some b => exact lv_aload hx hb hd h9 h8
theorem mD_istore_n (C : mm_D hh d y cc nL ret oz hz V) {q : Fin 4} {i : Nat} {x : Int32} (hd : decode cc pc = .ok (.istore_n q, 1)) (hq : (q : Nat) = i) (hn : i < nL) (hl : (i, .int x) :: lv.filter (fun q => !(q.1 == i) && !(q.1 + 1 == i && q.2.category == 2)) = lv') (k : V (pc + 1) lv' st h) : V pc lv (.int x :: st) h := by
  obtain ⟨p, l, e, s, m, args, below, meth, c, h0, G, ⟨hsl, hx, hb, hml, hr, hlk, hown, hnm, htab⟩, hts, hS, hNc, rfl⟩ := C
  intro H locs ls hls a1 a2 a3 a4
  refine lv_istore_n (lv' := lv'.map fun q => (q.1, mm_v G q.2)) hx hb hd hq hls hn (by rw [← hl]; exact congrArg _ (mm_flt G (fun a b => !(a == i) && !(a + 1 == i && b == 2)) lv)) (fun ls' hls' => k H locs ls' hls' a1 a2 a3 a4)
theorem mD_istore (C : mm_D hh d y cc nL ret oz hz V) {i : Nat} {x : Int32} (hd : decode cc pc = .ok (.istore i, 2)) (hn : i < nL) (hl : (i, .int x) :: lv.filter (fun q => !(q.1 == i) && !(q.1 + 1 == i && q.2.category == 2)) = lv') (k : V (pc + 2) lv' st h) : V pc lv (.int x :: st) h := by
  obtain ⟨p, l, e, s, m, args, below, meth, c, h0, G, ⟨hsl, hx, hb, hml, hr, hlk, hown, hnm, htab⟩, hts, hS, hNc, rfl⟩ := C
  intro H locs ls hls a1 a2 a3 a4
  refine lv_istore (lv' := lv'.map fun q => (q.1, mm_v G q.2)) hx hb hd hls hn (by rw [← hl]; exact congrArg _ (mm_flt G (fun a b => !(a == i) && !(a + 1 == i && b == 2)) lv)) (fun ls' hls' => k H locs ls' hls' a1 a2 a3 a4)
theorem mD_lstore_n (C : mm_D hh d y cc nL ret oz hz V) {q : Fin 4} {i : Nat} {x : Int64} (hd : decode cc pc = .ok (.lstore_n q, 1)) (hq : (q : Nat) = i) (hn : i + 1 < nL) (hl : (i, .long x) :: lv.filter (fun q => !(q.1 == i) && (!(q.1 == i + 1) && !(q.1 + 1 == i && q.2.category == 2))) = lv') (k : V (pc + 1) lv' st h) : V pc lv (.long x :: st) h := by
  obtain ⟨p, l, e, s, m, args, below, meth, c, h0, G, ⟨hsl, hx, hb, hml, hr, hlk, hown, hnm, htab⟩, hts, hS, hNc, rfl⟩ := C
  intro H locs ls hls a1 a2 a3 a4
  refine lv_lstore_n (lv' := lv'.map fun q => (q.1, mm_v G q.2)) hx hb hd hq hls hn (by rw [← hl]; exact congrArg _ (mm_flt G (fun a b => !(a == i) && (!(a == i + 1) && !(a + 1 == i && b == 2))) lv)) (fun ls' hls' => k H locs ls' hls' a1 a2 a3 a4)
theorem mD_lstore (C : mm_D hh d y cc nL ret oz hz V) {i : Nat} {x : Int64} (hd : decode cc pc = .ok (.lstore i, 2)) (hn : i + 1 < nL) (hl : (i, .long x) :: lv.filter (fun q => !(q.1 == i) && (!(q.1 == i + 1) && !(q.1 + 1 == i && q.2.category == 2))) = lv') (k : V (pc + 2) lv' st h) : V pc lv (.long x :: st) h := by
  obtain ⟨p, l, e, s, m, args, below, meth, c, h0, G, ⟨hsl, hx, hb, hml, hr, hlk, hown, hnm, htab⟩, hts, hS, hNc, rfl⟩ := C
  intro H locs ls hls a1 a2 a3 a4
  refine lv_lstore (lv' := lv'.map fun q => (q.1, mm_v G q.2)) hx hb hd hls hn (by rw [← hl]; exact congrArg _ (mm_flt G (fun a b => !(a == i) && (!(a == i + 1) && !(a + 1 == i && b == 2))) lv)) (fun ls' hls' => k H locs ls' hls' a1 a2 a3 a4)
theorem mD_astore_n (C : mm_D hh d y cc nL ret oz hz V) {q : Fin 4} {i : Nat} {r : Option Nat} (hd : decode cc pc = .ok (.astore_n q, 1)) (hq : (q : Nat) = i) (hn : i < nL) (hl : (i, va_rf r) :: lv.filter (fun q => !(q.1 == i) && !(q.1 + 1 == i && q.2.category == 2)) = lv') (k : V (pc + 1) lv' st h) : V pc lv (va_rf r :: st) h := by
  obtain ⟨p, l, e, s, m, args, below, meth, c, h0, G, ⟨hsl, hx, hb, hml, hr, hlk, hown, hnm, htab⟩, hts, hS, hNc, rfl⟩ := C
  intro H locs ls hls a1 a2 a3 a4
  cases r with
  | none => exact lv_astore_nN (lv' := lv'.map fun q => (q.1, mm_v G q.2)) hx hb hd hq hls hn (by rw [← hl]; exact congrArg _ (mm_flt G (fun a b => !(a == i) && !(a + 1 == i && b == 2)) lv)) (fun ls' hls' => k H locs ls' hls' a1 a2 a3 a4)
  | some b => exact lv_astore_n (lv' := lv'.map fun q => (q.1, mm_v G q.2)) hx hb hd hq hls hn (by rw [← hl]; exact congrArg _ (mm_flt G (fun a b => !(a == i) && !(a + 1 == i && b == 2)) lv)) (fun ls' hls' => k H locs ls' hls' a1 a2 a3 a4)
theorem mD_astore (C : mm_D hh d y cc nL ret oz hz V) {i : Nat} {r : Option Nat} (hd : decode cc pc = .ok (.astore i, 2)) (hn : i < nL) (hl : (i, va_rf r) :: lv.filter (fun q => !(q.1 == i) && !(q.1 + 1 == i && q.2.category == 2)) = lv') (k : V (pc + 2) lv' st h) : V pc lv (va_rf r :: st) h := by
  obtain ⟨p, l, e, s, m, args, below, meth, c, h0, G, ⟨hsl, hx, hb, hml, hr, hlk, hown, hnm, htab⟩, hts, hS, hNc, rfl⟩ := C
  intro H locs ls hls a1 a2 a3 a4
  cases r with
  | none => exact lv_astoreN (lv' := lv'.map fun q => (q.1, mm_v G q.2)) hx hb hd hls hn (by rw [← hl]; exact congrArg _ (mm_flt G (fun a b => !(a == i) && !(a + 1 == i && b == 2)) lv)) (fun ls' hls' => k H locs ls' hls' a1 a2 a3 a4)
  | some b => exact lv_astore (lv' := lv'.map fun q => (q.1, mm_v G q.2)) hx hb hd hls hn (by rw [← hl]; exact congrArg _ (mm_flt G (fun a b => !(a == i) && !(a + 1 == i && b == 2)) lv)) (fun ls' hls' => k H locs ls' hls' a1 a2 a3 a4)
theorem mD_iinc (C : mm_D hh d y cc nL ret oz hz V) {i : Nat} {n : Int} {x v : Int32} (j : Nat) (hd : decode cc pc = .ok (.iinc i n, 3)) (hj : lv[j]? = some (i, .int x)) (hv : x + Int32.ofInt n = v) (hn : i < nL) (hl : (i, .int v) :: lv.filter (fun q => !(q.1 == i) && !(q.1 + 1 == i && q.2.category == 2)) = lv') (k : V (pc + 3) lv' st h) : V pc lv st h := by
  obtain ⟨p, l, e, s, m, args, below, meth, c, h0, G, ⟨hsl, hx, hb, hml, hr, hlk, hown, hnm, htab⟩, hts, hS, hNc, rfl⟩ := C
  intro H locs ls hls a1 a2 a3 a4
  exact lv_iinc (lv' := lv'.map fun q => (q.1, mm_v G q.2)) hx hb hd hls (k := j) (mm_lv hj) hv hn (by rw [← hl]; exact congrArg _ (mm_flt G (fun a b => !(a == i) && !(a + 1 == i && b == 2)) lv)) (fun ls' hls' => k H locs ls' hls' a1 a2 a3 a4)
theorem mD_if_eq (C : mm_D hh d y cc nL ret oz hz V) {x : Int32} {off : Int} {tgt : Nat} (hd : decode cc pc = .ok (.ifCond .eq off, 3)) (ht : (pc : Int) + off = (tgt : Int)) (kt : x = 0 → V tgt lv st h) (kf : ¬ x = 0 → V (pc + 3) lv st h) : V pc lv (.int x :: st) h := by
  obtain ⟨p, l, e, s, m, args, below, meth, c, h0, G, ⟨hsl, hx, hb, hml, hr, hlk, hown, hnm, htab⟩, hts, hS, hNc, rfl⟩ := C
  intro H locs ls hls a1 a2 a3 a4
  exact lv_if_eq hx hb hd ht (fun q => kt q H locs ls hls a1 a2 a3 a4) (fun q => kf q H locs ls hls a1 a2 a3 a4)
theorem mD_if_ne (C : mm_D hh d y cc nL ret oz hz V) {x : Int32} {off : Int} {tgt : Nat} (hd : decode cc pc = .ok (.ifCond .ne off, 3)) (ht : (pc : Int) + off = (tgt : Int)) (kt : ¬ x = 0 → V tgt lv st h) (kf : x = 0 → V (pc + 3) lv st h) : V pc lv (.int x :: st) h := by
  obtain ⟨p, l, e, s, m, args, below, meth, c, h0, G, ⟨hsl, hx, hb, hml, hr, hlk, hown, hnm, htab⟩, hts, hS, hNc, rfl⟩ := C
  intro H locs ls hls a1 a2 a3 a4
  exact lv_if_ne hx hb hd ht (fun q => kt q H locs ls hls a1 a2 a3 a4) (fun q => kf q H locs ls hls a1 a2 a3 a4)
theorem mD_if_lt (C : mm_D hh d y cc nL ret oz hz V) {x : Int32} {off : Int} {tgt : Nat} (hd : decode cc pc = .ok (.ifCond .lt off, 3)) (ht : (pc : Int) + off = (tgt : Int)) (kt : x < 0 → V tgt lv st h) (kf : ¬ x < 0 → V (pc + 3) lv st h) : V pc lv (.int x :: st) h := by
  obtain ⟨p, l, e, s, m, args, below, meth, c, h0, G, ⟨hsl, hx, hb, hml, hr, hlk, hown, hnm, htab⟩, hts, hS, hNc, rfl⟩ := C
  intro H locs ls hls a1 a2 a3 a4
  exact lv_if_lt hx hb hd ht (fun q => kt q H locs ls hls a1 a2 a3 a4) (fun q => kf q H locs ls hls a1 a2 a3 a4)
theorem mD_if_ge (C : mm_D hh d y cc nL ret oz hz V) {x : Int32} {off : Int} {tgt : Nat} (hd : decode cc pc = .ok (.ifCond .ge off, 3)) (ht : (pc : Int) + off = (tgt : Int)) (kt : 0 ≤ x → V tgt lv st h) (kf : ¬ 0 ≤ x → V (pc + 3) lv st h) : V pc lv (.int x :: st) h := by
  obtain ⟨p, l, e, s, m, args, below, meth, c, h0, G, ⟨hsl, hx, hb, hml, hr, hlk, hown, hnm, htab⟩, hts, hS, hNc, rfl⟩ := C
  intro H locs ls hls a1 a2 a3 a4
  exact lv_if_ge hx hb hd ht (fun q => kt q H locs ls hls a1 a2 a3 a4) (fun q => kf q H locs ls hls a1 a2 a3 a4)
theorem mD_if_gt (C : mm_D hh d y cc nL ret oz hz V) {x : Int32} {off : Int} {tgt : Nat} (hd : decode cc pc = .ok (.ifCond .gt off, 3)) (ht : (pc : Int) + off = (tgt : Int)) (kt : 0 < x → V tgt lv st h) (kf : ¬ 0 < x → V (pc + 3) lv st h) : V pc lv (.int x :: st) h := by
  obtain ⟨p, l, e, s, m, args, below, meth, c, h0, G, ⟨hsl, hx, hb, hml, hr, hlk, hown, hnm, htab⟩, hts, hS, hNc, rfl⟩ := C
  intro H locs ls hls a1 a2 a3 a4
  exact lv_if_gt hx hb hd ht (fun q => kt q H locs ls hls a1 a2 a3 a4) (fun q => kf q H locs ls hls a1 a2 a3 a4)
theorem mD_if_le (C : mm_D hh d y cc nL ret oz hz V) {x : Int32} {off : Int} {tgt : Nat} (hd : decode cc pc = .ok (.ifCond .le off, 3)) (ht : (pc : Int) + off = (tgt : Int)) (kt : x ≤ 0 → V tgt lv st h) (kf : ¬ x ≤ 0 → V (pc + 3) lv st h) : V pc lv (.int x :: st) h := by
  obtain ⟨p, l, e, s, m, args, below, meth, c, h0, G, ⟨hsl, hx, hb, hml, hr, hlk, hown, hnm, htab⟩, hts, hS, hNc, rfl⟩ := C
  intro H locs ls hls a1 a2 a3 a4
  exact lv_if_le hx hb hd ht (fun q => kt q H locs ls hls a1 a2 a3 a4) (fun q => kf q H locs ls hls a1 a2 a3 a4)
theorem mD_icmp_eq (C : mm_D hh d y cc nL ret oz hz V) {x z : Int32} {off : Int} {tgt : Nat} (hd : decode cc pc = .ok (.if_icmp .eq off, 3)) (ht : (pc : Int) + off = (tgt : Int)) (kt : x = z → V tgt lv st h) (kf : ¬ x = z → V (pc + 3) lv st h) : V pc lv (.int z :: .int x :: st) h := by
  obtain ⟨p, l, e, s, m, args, below, meth, c, h0, G, ⟨hsl, hx, hb, hml, hr, hlk, hown, hnm, htab⟩, hts, hS, hNc, rfl⟩ := C
  intro H locs ls hls a1 a2 a3 a4
  exact lv_icmp_eq hx hb hd ht (fun q => kt q H locs ls hls a1 a2 a3 a4) (fun q => kf q H locs ls hls a1 a2 a3 a4)
theorem mD_icmp_ne (C : mm_D hh d y cc nL ret oz hz V) {x z : Int32} {off : Int} {tgt : Nat} (hd : decode cc pc = .ok (.if_icmp .ne off, 3)) (ht : (pc : Int) + off = (tgt : Int)) (kt : ¬ x = z → V tgt lv st h) (kf : x = z → V (pc + 3) lv st h) : V pc lv (.int z :: .int x :: st) h := by
  obtain ⟨p, l, e, s, m, args, below, meth, c, h0, G, ⟨hsl, hx, hb, hml, hr, hlk, hown, hnm, htab⟩, hts, hS, hNc, rfl⟩ := C
  intro H locs ls hls a1 a2 a3 a4
  exact lv_icmp_ne hx hb hd ht (fun q => kt q H locs ls hls a1 a2 a3 a4) (fun q => kf q H locs ls hls a1 a2 a3 a4)
theorem mD_icmp_lt (C : mm_D hh d y cc nL ret oz hz V) {x z : Int32} {off : Int} {tgt : Nat} (hd : decode cc pc = .ok (.if_icmp .lt off, 3)) (ht : (pc : Int) + off = (tgt : Int)) (kt : x < z → V tgt lv st h) (kf : ¬ x < z → V (pc + 3) lv st h) : V pc lv (.int z :: .int x :: st) h := by
  obtain ⟨p, l, e, s, m, args, below, meth, c, h0, G, ⟨hsl, hx, hb, hml, hr, hlk, hown, hnm, htab⟩, hts, hS, hNc, rfl⟩ := C
  intro H locs ls hls a1 a2 a3 a4
  exact lv_icmp_lt hx hb hd ht (fun q => kt q H locs ls hls a1 a2 a3 a4) (fun q => kf q H locs ls hls a1 a2 a3 a4)
theorem mD_icmp_ge (C : mm_D hh d y cc nL ret oz hz V) {x z : Int32} {off : Int} {tgt : Nat} (hd : decode cc pc = .ok (.if_icmp .ge off, 3)) (ht : (pc : Int) + off = (tgt : Int)) (kt : z ≤ x → V tgt lv st h) (kf : ¬ z ≤ x → V (pc + 3) lv st h) : V pc lv (.int z :: .int x :: st) h := by
  obtain ⟨p, l, e, s, m, args, below, meth, c, h0, G, ⟨hsl, hx, hb, hml, hr, hlk, hown, hnm, htab⟩, hts, hS, hNc, rfl⟩ := C
  intro H locs ls hls a1 a2 a3 a4
  exact lv_icmp_ge hx hb hd ht (fun q => kt q H locs ls hls a1 a2 a3 a4) (fun q => kf q H locs ls hls a1 a2 a3 a4)
theorem mD_icmp_gt (C : mm_D hh d y cc nL ret oz hz V) {x z : Int32} {off : Int} {tgt : Nat} (hd : decode cc pc = .ok (.if_icmp .gt off, 3)) (ht : (pc : Int) + off = (tgt : Int)) (kt : z < x → V tgt lv st h) (kf : ¬ z < x → V (pc + 3) lv st h) : V pc lv (.int z :: .int x :: st) h := by
  obtain ⟨p, l, e, s, m, args, below, meth, c, h0, G, ⟨hsl, hx, hb, hml, hr, hlk, hown, hnm, htab⟩, hts, hS, hNc, rfl⟩ := C
  intro H locs ls hls a1 a2 a3 a4
  exact lv_icmp_gt hx hb hd ht (fun q => kt q H locs ls hls a1 a2 a3 a4) (fun q => kf q H locs ls hls a1 a2 a3 a4)
theorem mD_icmp_le (C : mm_D hh d y cc nL ret oz hz V) {x z : Int32} {off : Int} {tgt : Nat} (hd : decode cc pc = .ok (.if_icmp .le off, 3)) (ht : (pc : Int) + off = (tgt : Int)) (kt : x ≤ z → V tgt lv st h) (kf : ¬ x ≤ z → V (pc + 3) lv st h) : V pc lv (.int z :: .int x :: st) h := by
  obtain ⟨p, l, e, s, m, args, below, meth, c, h0, G, ⟨hsl, hx, hb, hml, hr, hlk, hown, hnm, htab⟩, hts, hS, hNc, rfl⟩ := C
  intro H locs ls hls a1 a2 a3 a4
  exact lv_icmp_le hx hb hd ht (fun q => kt q H locs ls hls a1 a2 a3 a4) (fun q => kf q H locs ls hls a1 a2 a3 a4)
theorem mD_goto (C : mm_D hh d y cc nL ret oz hz V) {off : Int} {tgt : Nat} (hd : decode cc pc = .ok (.goto off, 3)) (ht : (pc : Int) + off = (tgt : Int)) (k : V tgt lv st h) : V pc lv st h := by
  obtain ⟨p, l, e, s, m, args, below, meth, c, h0, G, ⟨hsl, hx, hb, hml, hr, hlk, hown, hnm, htab⟩, hts, hS, hNc, rfl⟩ := C
  intro H locs ls hls a1 a2 a3 a4
  exact lv_goto hx hb hd ht (k H locs ls hls a1 a2 a3 a4)
theorem mD_ifnull (C : mm_D hh d y cc nL ret oz hz V) {r : Option Nat} {off : Int} {tgt : Nat} (hd : decode cc pc = .ok (.ifnull off, 3)) (ht : (pc : Int) + off = (tgt : Int)) (kt : r = none → V tgt lv st h) (kf : ¬ r = none → V (pc + 3) lv st h) : V pc lv (va_rf r :: st) h := by
  obtain ⟨p, l, e, s, m, args, below, meth, c, h0, G, ⟨hsl, hx, hb, hml, hr, hlk, hown, hnm, htab⟩, hts, hS, hNc, rfl⟩ := C
  intro H locs ls hls a1 a2 a3 a4
  cases r with
  | none => exact lv_ifnullN hx hb hd ht (kt rfl H locs ls hls a1 a2 a3 a4)
  | some b => exact lv_ifnull hx hb hd (kf (fun q => by cases q) H locs ls hls a1 a2 a3 a4)
theorem mD_ifnonnull (C : mm_D hh d y cc nL ret oz hz V) {r : Option Nat} {off : Int} {tgt : Nat} (hd : decode cc pc = .ok (.ifnonnull off, 3)) (ht : (pc : Int) + off = (tgt : Int)) (kt : ¬ r = none → V tgt lv st h) (kf : r = none → V (pc + 3) lv st h) : V pc lv (va_rf r :: st) h := by
  obtain ⟨p, l, e, s, m, args, below, meth, c, h0, G, ⟨hsl, hx, hb, hml, hr, hlk, hown, hnm, htab⟩, hts, hS, hNc, rfl⟩ := C
  intro H locs ls hls a1 a2 a3 a4
  cases r with
  | none => exact lv_ifnonnullN hx hb hd (kf rfl H locs ls hls a1 a2 a3 a4)
  | some b => exact lv_ifnonnull hx hb hd ht (kt (fun q => by cases q) H locs ls hls a1 a2 a3 a4)
theorem mD_tableOut (C : mm_D hh d y cc nL ret oz hz V) {dflt lo hi : Int} {offs : Array Int} {len : Nat} {x : Int32} {tgt : Nat} (hd : decode cc pc = .ok (.tableswitch dflt lo hi offs, len)) (hq : x.toInt < lo ∨ hi < x.toInt) (ht : (pc : Int) + dflt = (tgt : Int)) (k : V tgt lv st h) : V pc lv (.int x :: st) h := by
  obtain ⟨p, l, e, s, m, args, below, meth, c, h0, G, ⟨hsl, hx, hb, hml, hr, hlk, hown, hnm, htab⟩, hts, hS, hNc, rfl⟩ := C
  intro H locs ls hls a1 a2 a3 a4
  exact lv_tableOut hx hb hd hq ht (k H locs ls hls a1 a2 a3 a4)
theorem mD_tableIn (C : mm_D hh d y cc nL ret oz hz V) {dflt lo hi : Int} {offs : Array Int} {len : Nat} {x : Int32} {off : Int} {tgt : Nat} (hd : decode cc pc = .ok (.tableswitch dflt lo hi offs, len)) (h1 : ¬ x.toInt < lo) (h2 : ¬ hi < x.toInt) (ho : offs[(x.toInt - lo).toNat]? = some off) (ht : (pc : Int) + off = (tgt : Int)) (k : V tgt lv st h) : V pc lv (.int x :: st) h := by
  obtain ⟨p, l, e, s, m, args, below, meth, c, h0, G, ⟨hsl, hx, hb, hml, hr, hlk, hown, hnm, htab⟩, hts, hS, hNc, rfl⟩ := C
  intro H locs ls hls a1 a2 a3 a4
  exact lv_tableIn hx hb hd h1 h2 ho ht (k H locs ls hls a1 a2 a3 a4)
theorem mD_sub (C : mm_D hh d y cc nL ret oz hz V) (ks : List Nat) (hl : lv_pick lv ks = lv') (k : V pc lv' st h) : V pc lv st h := by
  obtain ⟨p, l, e, s, m, args, below, meth, c, h0, G, ⟨hsl, hx, hb, hml, hr, hlk, hown, hnm, htab⟩, hts, hS, hNc, rfl⟩ := C
  intro H locs ls hls a1 a2 a3 a4
  refine k H locs ls (lv_sub hls ks ?_) a1 a2 a3 a4
  rw [← hl]
  simp only [lv_pick, List.getElem?_map, List.map_filterMap]
theorem mD_get (C : mm_D hh d y cc nL ret oz hz V) {R : String} {T : u_T} {N ci k idx : Nat} {v : Value} (hin : ∀ w ∈ u_ws R T N, w ∈ lw_good) (hc : mm_cl[ci]? = some (R, T, N)) (hk : k < N) (hw : Cond.fieldLink y.cls idx (T k).1 (T k).2.1 (T k).2.2.1 ∈ lw_good) (hd : decode cc pc = .ok (.getfield idx, 3)) (hg : gF h r ci k = some v) (kk : V (pc + 3) lv (v :: st) h) : V pc lv (va_rf r :: st) h := by
  obtain ⟨a, fs, rfl, ea, ev⟩ := gF_some hg
  obtain ⟨p, l, e, s, m, args, below, meth, c, h0, G, ⟨hsl, hx, hb, hml, hr, hlk, hown, hnm, htab⟩, hts, hSt, hNc, rfl⟩ := C
  intro H locs ls hls a1 a2 a3 a4
  have hci : ci ≠ 13 := by intro z; subst z; simp at hc
  obtain ⟨b1, b2⟩ := a1.hi hci ea
  exact va_get (D := G.1) (cl := mm_cl) (ws := [(mm_ad G a, .inr (ci, fs.map (mm_v G)))]) hx hb hts hin hown hSt.2.1 (a1.one b1 b2 (by rw [ea]; rfl)) 0 rfl hc k hk (hts _ hw) (fun _ h9 => h9) (v := mm_v G v) (by simp [ev]) hd (kk H locs ls hls a1 a2 a3 a4)
theorem mD_geti (C : mm_D hh d y cc nL ret oz hz V) {R : String} {T : u_T} {N ci k idx : Nat} {v : Int32} (hin : ∀ w ∈ u_ws R T N, w ∈ lw_good) (hc : mm_cl[ci]? = some (R, T, N)) (hk : k < N) (hw : Cond.fieldLink y.cls idx (T k).1 (T k).2.1 (T k).2.2.1 ∈ lw_good) (hd : decode cc pc = .ok (.getfield idx, 3)) (hg : gI h r ci k = some v) (kk : V (pc + 3) lv (.int v :: st) h) : V pc lv (va_rf r :: st) h := mD_get C hin hc hk hw hd (gI_some hg) kk
theorem mD_getl (C : mm_D hh d y cc nL ret oz hz V) {R : String} {T : u_T} {N ci k idx : Nat} {v : Int64} (hin : ∀ w ∈ u_ws R T N, w ∈ lw_good) (hc : mm_cl[ci]? = some (R, T, N)) (hk : k < N) (hw : Cond.fieldLink y.cls idx (T k).1 (T k).2.1 (T k).2.2.1 ∈ lw_good) (hd : decode cc pc = .ok (.getfield idx, 3)) (hg : gL h r ci k = some v) (kk : V (pc + 3) lv (.long v :: st) h) : V pc lv (va_rf r :: st) h := mD_get C hin hc hk hw hd (gL_some hg) kk
theorem mD_getr (C : mm_D hh d y cc nL ret oz hz V) {R : String} {T : u_T} {N ci k idx : Nat} {v : Option Nat} (hin : ∀ w ∈ u_ws R T N, w ∈ lw_good) (hc : mm_cl[ci]? = some (R, T, N)) (hk : k < N) (hw : Cond.fieldLink y.cls idx (T k).1 (T k).2.1 (T k).2.2.1 ∈ lw_good) (hd : decode cc pc = .ok (.getfield idx, 3)) (hg : gR h r ci k = some v) (kk : V (pc + 3) lv (va_rf v :: st) h) : V pc lv (va_rf r :: st) h := mD_get C hin hc hk hw hd (gR_some hg) kk
theorem mD_put (C : mm_D hh d y cc nL ret oz hz V) {R : String} {T : u_T} {N ci k idx : Nat} {v : Value} {ty : FieldType} (fin : Bool) (hin : ∀ w ∈ u_ws R T N, w ∈ lw_good) (ty0 : Nat → FieldType) (hty : ∀ k, k < N → parseFieldDescriptor (T k).2.2.1 = some (ty0 k)) (hnm0 : ∀ a, a < N → ∀ b, b < N → a ≠ b → (T a).2.1 ≠ (T b).2.1) (hc : mm_cl[ci]? = some (R, T, N)) (hk : k < N) (hw : Cond.fieldLink y.cls idx (T k).1 (T k).2.1 (T k).2.2.1 ∈ lw_good) (hfin : (T k).2.2.2 = fin) (hini : fin = true → y.name = "<init>" ∧ (T k).1 = y.cls) (hdy : parseFieldDescriptor (T k).2.2.1 = some ty) (hn : ∀ G : mm_G, narrow ty (mm_v G v) = mm_v G v) (hf : ∀ G : mm_G, fits ty (mm_v G v) = true) (hd : decode cc pc = .ok (.putfield idx, 3)) (hp : pF h r ci k v = some h1) (kk : V (pc + 3) lv st h1) : V pc lv (v :: va_rf r :: st) h := by
  obtain ⟨a, fs, rfl, ea, hl, b1, rfl⟩ := pF_some hp
  obtain ⟨p, l, e, s, m, args, below, meth, c, h0, G, ⟨hsl, hx, hb, hml, hr, hlk, hown, hnm, htab⟩, hts, hSt, hNc, rfl⟩ := C
  intro H locs ls hls a1 a2 a3 a4
  have hci : ci ≠ 13 := by intro z; subst z; simp at hc
  obtain ⟨b1, b2⟩ := a1.hi hci ea
  have hK := hSt.2.1
  have hap := va_apart (own := y.cls) hts hin ty0 hty hnm0 hK hc
  obtain ⟨r9, r1, cell, q1, q2, q3, q4⟩ := a1.at b1 b2 (e := .inr (ci, fs.map (mm_v G))) (by rw [ea]; rfl)
  have hr9 : r9 = (R, T, N) := Option.some.inj (r1.symm.trans hc)
  subst hr9
  obtain ⟨hSl, hfc, kC, hkC, hkind⟩ := hK.1 ci _ hc
  obtain ⟨cf, kf, fi, f, hi, hsl9⟩ := hSl k hk
  have hlay := hts _ (hin _ (u_in_lay hk))
  have hst := (u_facts hfc hkC (u_lays hts hin hk) hi).1
  have fin_ : ∀ (H' : Heap), H'[mm_ad G a]? = some (cell.setSlot f.slot (mm_v G v)) → H'.size = H.size → (∀ q, q ≠ mm_ad G a → H'[q]? = H[q]?) → W p l e (mm_rm d h0) s m args below meth c H' (locs ++ [⟨mm_ad G a, f.slot⟩]) (h.2.1 - h0.2.1) (h.2.2 - h0.2.2) (vx_MQ below (mm_Qc G h0 oz hz) (mm_XC G h0 oz hz) args s (hz.2.1 - h0.2.1) (hz.2.2 - h0.2.2) (mm_A G)) (F0 m (pc + 3) ls (st.map (mm_v G))) := by
    intro H' e1 e2 e3
    refine kk H' _ ls hls (a1.set b1 b2 e2 e3 ?_) ?_ a3 a4
    · intro e9 he9
      cases he9
      rw [hsl9] at e1
      exact ⟨_, hc, t_OB.to (V := updV (vp_V (fs.map (mm_v G))) k (mm_v G v)) ⟨_, e1, q2, q3, t_set q4 hap hk _⟩ (fun j _ => mm_fsmap hl j)⟩
    · intro q hq
      rcases List.mem_append.mp hq with h9 | h9
      · exact a2 q h9
      · rw [List.mem_singleton.mp h9]
        show _ ≤ mm_ad G a
        rw [mm_ad_hi b1]; omega
  cases fin with
  | false =>
    unfold u_lay at hlay
    rw [if_neg (by rw [hfin]; decide)] at hlay
    have h6 := u_store hfc hkC hkind hlay hi hdy (hn G) (hf G)
    exact W.putK hx hb (f := f) ⟨hown, hts _ hw, ⟨_, _, _, hi⟩, hst⟩ (by rw [q2]; exact h6) q1 q3 (by rw [hsl9]; exact k2_hasslot (q4 k hk)) rfl rfl hd fin_
  | true =>
    unfold u_lay at hlay
    rw [if_pos hfin] at hlay
    have hcf : m.cls = cf := by
      obtain ⟨_, _, c', _, _, _, -, -, hf', -, -, -, hown2, -⟩ := Cond.laysFinal_spec hlay
      have e1 : c' = cf := by have := hi.symm.trans hf'; simp at this; exact this.1.symm
      rw [(hini rfl).2] at hown2
      rw [← e1]; exact Option.some.inj (hown.symm.trans hown2)
    have h6 := u_fits hfc hkC hkind (Or.inr hlay) hi hdy (hn G) (hf G)
    exact W.putFinK hx hb hown (hts _ hw) hi hst hcf (by rw [hnm]; exact (hini rfl).1) (by rw [q2]; exact h6) q1 q3 (by rw [hsl9]; exact k2_hasslot (q4 k hk)) rfl rfl hd fin_
theorem mD_iald (C : mm_D hh d y cc nL ret oz hz V) {i v : Int32} (hd : decode cc pc = .ok (.iaload, 1)) (hg : aI h r 0 i = some v) (kk : V (pc + 1) lv (.int v :: st) h) : V pc lv (.int i :: va_rf r :: st) h := by
  obtain ⟨a, n, f, rfl, ea, hin, rfl⟩ := aI_some hg
  obtain ⟨p, l, e, s, m, args, below, meth, c, h0, G, ⟨hsl, hx, hb, hml, hr, hlk, hown, hnm, htab⟩, hts, hSt, hNc, rfl⟩ := C
  intro H locs ls hls a1 a2 a3 a4
  obtain ⟨b1, b2⟩ := a1.hia ⟨by decide, by decide⟩ ea
  exact va_iald (D := G.1) (cl := mm_cl) (ws := [(mm_ad G a, .inl (G.2.1 0, n, .inl f))]) hx hb hSt.2.1 (a1.one b1 b2 (by rw [ea]; rfl)) 0 0 rfl rfl hin hd (kk H locs ls hls a1 a2 a3 a4)
theorem mD_zald (C : mm_D hh d y cc nL ret oz hz V) {i v : Int32} (hd : decode cc pc = .ok (.baload, 1)) (hg : aI h r 3 i = some v) (kk : V (pc + 1) lv (.int v :: st) h) : V pc lv (.int i :: va_rf r :: st) h := by
  obtain ⟨a, n, f, rfl, ea, hin, rfl⟩ := aI_some hg
  obtain ⟨p, l, e, s, m, args, below, meth, c, h0, G, ⟨hsl, hx, hb, hml, hr, hlk, hown, hnm, htab⟩, hts, hSt, hNc, rfl⟩ := C
  intro H locs ls hls a1 a2 a3 a4
  obtain ⟨b1, b2⟩ := a1.hia ⟨by decide, by decide⟩ ea
  exact va_zald (D := G.1) (cl := mm_cl) (ws := [(mm_ad G a, .inl (G.2.1 3, n, .inl f))]) hx hb hSt.2.1 (a1.one b1 b2 (by rw [ea]; rfl)) 0 3 rfl rfl hin hd (kk H locs ls hls a1 a2 a3 a4)
theorem mD_lald (C : mm_D hh d y cc nL ret oz hz V) {i : Int32} {v : Int64} (hd : decode cc pc = .ok (.laload, 1)) (hg : aL h r i = some v) (kk : V (pc + 1) lv (.long v :: st) h) : V pc lv (.int i :: va_rf r :: st) h := by
  obtain ⟨a, n, f, rfl, ea, hin, rfl⟩ := aL_some hg
  obtain ⟨p, l, e, s, m, args, below, meth, c, h0, G, ⟨hsl, hx, hb, hml, hr, hlk, hown, hnm, htab⟩, hts, hSt, hNc, rfl⟩ := C
  intro H locs ls hls a1 a2 a3 a4
  obtain ⟨b1, b2⟩ := a1.hia ⟨by decide, by decide⟩ ea
  exact va_lald (D := G.1) (cl := mm_cl) (ws := [(mm_ad G a, .inl (G.2.1 1, n, .inr (.inl f)))]) hx hb hSt.2.1 (a1.one b1 b2 (by rw [ea]; rfl)) 0 1 rfl rfl hin hd (kk H locs ls hls a1 a2 a3 a4)
theorem mD_aald (C : mm_D hh d y cc nL ret oz hz V) {t : Nat} {E : String} {i : Int32} {v : Option Nat} (ht : ∀ G : mm_G, (mm_tys G)[t]? = some (G.2.1 t, .object E)) (ht2 : t ≠ 2 ∧ t ≠ 7) (hd : decode cc pc = .ok (.aaload, 1)) (hg : aR h r t i = some v) (kk : V (pc + 1) lv (va_rf v :: st) h) : V pc lv (.int i :: va_rf r :: st) h := by
  obtain ⟨a, n, f, rfl, ea, hin, rfl⟩ := aR_some hg
  obtain ⟨p, l, e, s, m, args, below, meth, c, h0, G, ⟨hsl, hx, hb, hml, hr, hlk, hown, hnm, htab⟩, hts, hSt, hNc, rfl⟩ := C
  intro H locs ls hls a1 a2 a3 a4
  obtain ⟨b1, b2⟩ := a1.hia ht2 ea
  have k9 := kk H locs ls hls a1 a2 a3 a4
  rw [List.map_cons, mm_v_rf] at k9
  exact va_aldq (D := G.1) (cl := mm_cl) (ws := [(mm_ad G a, .inl (G.2.1 t, n, .inr (.inr (.inr (.inr (fun j => (f j).map (mm_ad G)))))))]) hx hb hSt.2.1 (a1.one b1 b2 (by rw [ea]; rfl)) 0 t rfl (ht G) hin hd k9
theorem mD_bald (C : mm_D hh d y cc nL ret oz hz V) {i v : Int32} (hd : decode cc pc = .ok (.baload, 1)) (hg : aI h r 2 i = some v) (kk : V (pc + 1) lv (.int v :: st) h) : V pc lv (.int i :: va_rf r :: st) h := by
  obtain ⟨a, n, f, rfl, ea, hin, rfl⟩ := aI_some hg
  obtain ⟨p, l, e, s, m, args, below, meth, c, h0, G, ⟨hsl, hx, hb, hml, hr, hlk, hown, hnm, htab⟩, hts, hSt, hNc, rfl⟩ := C
  intro H locs ls hls a1 a2 a3 a4
  have k9 := kk H locs ls hls a1 a2 a3 a4
  by_cases ha : a < 128
  · obtain ⟨g, e1, -, cell, t1, t2, t3, t4, t5, t6, t7⟩ := mm_strT hSt.2 a1 ha (by decide) ea
    cases e1
    have hlt : i.toNatClampNeg < n := Nat.not_le.mp fun q => hin (Or.inr q)
    exact W.bald hx hb t1 t2 t3 (fun z => z.elim (fun z => hin (Or.inl z)) (fun z => by omega)) (v := .int (f i.toNatClampNeg)) (t6 _ hlt) rfl rfl hd k9
  · have b2 := a1.lt (a := a) (by rw [ea]; intro z; cases z)
    exact va_bald (D := G.1) (cl := mm_cl) (ws := [(mm_ad G a, .inl (G.2.1 2, n, .inl f))]) hx hb hSt.2.1 (a1.one (Nat.not_lt.mp ha) b2 (by rw [ea]; rfl)) 0 2 rfl rfl hin hd k9
theorem mD_alen (C : mm_D hh d y cc nL ret oz hz V) {v : Int32} (hd : decode cc pc = .ok (.arraylength, 1)) (hg : aN h r = some v) (ht : ∀ a t n f, r = some a → h.1 a = .inl (t, n, f) → t = 0 ∨ t = 2) (kk : V (pc + 1) lv (.int v :: st) h) : V pc lv (va_rf r :: st) h := by
  obtain ⟨a, t, n, f, rfl, ea, rfl⟩ := aN_some hg
  obtain ⟨p, l, e, s, m, args, below, meth, c, h0, G, ⟨hsl, hx, hb, hml, hr, hlk, hown, hnm, htab⟩, hts, hSt, hNc, rfl⟩ := C
  intro H locs ls hls a1 a2 a3 a4
  have k9 := kk H locs ls hls a1 a2 a3 a4
  by_cases ha : a < 128
  · obtain ⟨g, e1, -, cell, t1, t2, t3, t4, t5, t6, t7⟩ := mm_strT hSt.2 a1 ha (by rcases ht a t n f rfl ea with rfl | rfl <;> decide) ea
    exact W.alen hx hb t1 t2 t5 rfl rfl hd k9
  · have b2 := a1.lt (a := a) (by rw [ea]; intro z; cases z)
    have b1 := Nat.not_lt.mp ha
    obtain ⟨x, hx1⟩ : ∃ x : vp_A, mm_e G (h.1 a) = some (.inl (G.2.1 t, x)) ∧ x.1 = n := by
      rw [ea]
      rcases f with f | f | f
      · exact ⟨(n, .inl f), rfl, rfl⟩
      · exact ⟨(n, .inr (.inl f)), rfl, rfl⟩
      · exact ⟨(n, .inr (.inr (.inr (.inr (fun j => (f j).map (mm_ad G)))))), rfl, rfl⟩
    rcases ht a t n f rfl ea with rfl | rfl
    · exact va_alen (D := G.1) (cl := mm_cl) (ws := [(mm_ad G a, .inl (G.2.1 0, x))]) hx hb hSt.2.1 (a1.one b1 b2 hx1.1) 0 0 rfl (ty := .int) rfl (by rw [hx1.2]) hd k9
    · exact va_alen (D := G.1) (cl := mm_cl) (ws := [(mm_ad G a, .inl (G.2.1 2, x))]) hx hb hSt.2.1 (a1.one b1 b2 hx1.1) 0 2 rfl (ty := .byte) rfl (by rw [hx1.2]) hd k9
theorem mD_alenI (C : mm_D hh d y cc nL ret oz hz V) {v : Int32} (hd : decode cc pc = .ok (.arraylength, 1)) (hg : aNt h r 0 = some v) (kk : V (pc + 1) lv (.int v :: st) h) : V pc lv (va_rf r :: st) h := mD_alen C hd (aNt_some hg).1 (fun a t n f q1 q2 => Or.inl ((aNt_some hg).2 a t n f q1 q2)) kk
theorem mD_alenB (C : mm_D hh d y cc nL ret oz hz V) {v : Int32} (hd : decode cc pc = .ok (.arraylength, 1)) (hg : aNt h r 2 = some v) (kk : V (pc + 1) lv (.int v :: st) h) : V pc lv (va_rf r :: st) h := mD_alen C hd (aNt_some hg).1 (fun a t n f q1 q2 => Or.inr ((aNt_some hg).2 a t n f q1 q2)) kk
theorem mD_alenJ (C : mm_D hh d y cc nL ret oz hz V) {v : Int32} (hd : decode cc pc = .ok (.arraylength, 1)) (hg : aNt h r 1 = some v) (kk : V (pc + 1) lv (.int v :: st) h) : V pc lv (va_rf r :: st) h := by
  obtain ⟨hg1, ht⟩ := aNt_some hg
  obtain ⟨a, t, n, f, rfl, ea, rfl⟩ := aN_some hg1
  have ht1 := ht a t n f rfl ea
  subst ht1
  obtain ⟨p, l, e, s, m, args, below, meth, c, h0, G, ⟨hsl, hx, hb, hml, hr, hlk, hown, hnm, htab⟩, hts, hSt, hNc, rfl⟩ := C
  intro H locs ls hls a1 a2 a3 a4
  have k9 := kk H locs ls hls a1 a2 a3 a4
  obtain ⟨b1, b2⟩ := a1.hia ⟨by decide, by decide⟩ ea
  obtain ⟨x, hx1⟩ : ∃ x : vp_A, mm_e G (h.1 a) = some (.inl (G.2.1 1, x)) ∧ x.1 = n := by
    rw [ea]
    rcases f with f | f | f
    · exact ⟨(n, .inl f), rfl, rfl⟩
    · exact ⟨(n, .inr (.inl f)), rfl, rfl⟩
    · exact ⟨(n, .inr (.inr (.inr (.inr (fun j => (f j).map (mm_ad G)))))), rfl, rfl⟩
  exact va_alen (D := G.1) (cl := mm_cl) (ws := [(mm_ad G a, .inl (G.2.1 1, x))]) hx hb hSt.2.1 (a1.one b1 b2 hx1.1) 0 1 rfl (ty := .long) rfl (by rw [hx1.2]) hd k9
theorem mD_iast (C : mm_D hh d y cc nL ret oz hz V) {i x : Int32} (hd : decode cc pc = .ok (.iastore, 1)) (hg : sI h r 0 i x = some h1) (kk : V (pc + 1) lv st h1) : V pc lv (.int x :: .int i :: va_rf r :: st) h := by
  obtain ⟨a, n, f, rfl, ea, hin, b1, rfl⟩ := sI_some hg
  obtain ⟨p, l, e, s, m, args, below, meth, c, h0, G, ⟨hsl, hx, hb, hml, hr, hlk, hown, hnm, htab⟩, hts, hSt, hNc, rfl⟩ := C
  intro H locs ls hls a1 a2 a3 a4
  obtain ⟨b1, b2⟩ := a1.hia ⟨by decide, by decide⟩ ea
  refine W.iast hx hb (a1.at b1 b2 (e := .inl (G.2.1 0, n, .inl f)) (by rw [ea]; rfl)) ((hSt.2.1.2 0 _ rfl).1 n (fun j => .int (f j))) (fun q => by cases q) (by show ¬ (i < 0 ∨ (arrV _ _ _).slots.size ≤ _); rw [arrV_size]; exact hin) rfl rfl hd fun H1 e z oq => ?_
  exact kk H1 _ ls hls (a1.set b1 b2 z oq (fun e9 he9 => by cases he9; exact mm_arrset (G := G) e)) (mm_locs b1 a2) a3 a4
theorem mD_bast (C : mm_D hh d y cc nL ret oz hz V) {i x : Int32} (hd : decode cc pc = .ok (.bastore, 1)) (hg : sI h r 2 i x.toInt8.toInt32 = some h1) (kk : V (pc + 1) lv st h1) : V pc lv (.int x :: .int i :: va_rf r :: st) h := by
  obtain ⟨a, n, f, rfl, ea, hin, b1, rfl⟩ := sI_some hg
  obtain ⟨p, l, e, s, m, args, below, meth, c, h0, G, ⟨hsl, hx, hb, hml, hr, hlk, hown, hnm, htab⟩, hts, hSt, hNc, rfl⟩ := C
  intro H locs ls hls a1 a2 a3 a4
  have b2 := a1.lt (a := a) (by rw [ea]; intro z; cases z)
  refine W.bast hx hb (a1.at b1 b2 (e := .inl (G.2.1 2, n, .inl f)) (by rw [ea]; rfl)) ((hSt.2.1.2 2 _ rfl).1 n (fun j => .int (f j))) (fun q => by cases q) (by show ¬ (i < 0 ∨ (arrV _ _ _).slots.size ≤ _); rw [arrV_size]; exact hin) rfl rfl hd fun H1 e z oq => ?_
  exact kk H1 _ ls hls (a1.set b1 b2 z oq (fun e9 he9 => by cases he9; exact mm_arrset (G := G) e)) (mm_locs b1 a2) a3 a4
theorem mD_zast (C : mm_D hh d y cc nL ret oz hz V) {i x : Int32} (hd : decode cc pc = .ok (.bastore, 1)) (hg : sZ h r i x = some h1) (kk : V (pc + 1) lv st h1) : V pc lv (.int x :: .int i :: va_rf r :: st) h := by
  unfold sZ at hg
  split at hg
  case isFalse => cases hg
  rename_i hx01
  obtain ⟨a, n, f, rfl, ea, hin, b1, rfl⟩ := sI_some hg
  obtain ⟨p, l, e, s, m, args, below, meth, c, h0, G, ⟨hsl, hx, hb, hml, hr, hlk, hown, hnm, htab⟩, hts, hSt, hNc, rfl⟩ := C
  intro H locs ls hls a1 a2 a3 a4
  obtain ⟨b1, b2⟩ := a1.hia ⟨by decide, by decide⟩ ea
  refine W.zast hx hb (a1.at b1 b2 (e := .inl (G.2.1 3, n, .inl f)) (by rw [ea]; rfl)) ((hSt.2.1.2 3 _ rfl).1 n (fun j => .int (f j))) (fun q => by cases q) (by show ¬ (i < 0 ∨ (arrV _ _ _).slots.size ≤ _); rw [arrV_size]; exact hin) rfl rfl hd fun H1 e z oq => ?_
  refine kk H1 _ ls hls (a1.set b1 b2 z oq (fun e9 he9 => ?_)) (mm_locs b1 a2) a3 a4
  cases he9
  rcases hx01 with rfl | rfl <;> exact mm_arrset (G := G) e
theorem mD_last (C : mm_D hh d y cc nL ret oz hz V) {i : Int32} {x : Int64} (hd : decode cc pc = .ok (.lastore, 1)) (hg : sL h r i x = some h1) (kk : V (pc + 1) lv st h1) : V pc lv (.long x :: .int i :: va_rf r :: st) h := by
  obtain ⟨a, n, f, rfl, ea, hin, b1, rfl⟩ := sL_some hg
  obtain ⟨p, l, e, s, m, args, below, meth, c, h0, G, ⟨hsl, hx, hb, hml, hr, hlk, hown, hnm, htab⟩, hts, hSt, hNc, rfl⟩ := C
  intro H locs ls hls a1 a2 a3 a4
  obtain ⟨b1, b2⟩ := a1.hia ⟨by decide, by decide⟩ ea
  refine W.last hx hb (a1.at b1 b2 (e := .inl (G.2.1 1, n, .inr (.inl f))) (by rw [ea]; rfl)) ((hSt.2.1.2 1 _ rfl).1 n (fun j => .long (f j))) (fun q => by cases q) (by show ¬ (i < 0 ∨ (arrV _ _ _).slots.size ≤ _); rw [arrV_size]; exact hin) rfl rfl hd fun H1 e z oq => ?_
  refine kk H1 _ ls hls (a1.set b1 b2 z oq (fun e9 he9 => ?_)) (mm_locs b1 a2) a3 a4
  cases he9
  show H1[_]? = some (vp_cell _ _)
  rw [e, show (vp_cell (G.2.1 1) (n, Sum.inr (Sum.inl f))) = arrV (G.2.1 1) n (fun j => .long (f j)) from rfl, vp_cell_l, arrV_store]
  congr 2
  funext q
  by_cases hq : q = i.toNatClampNeg
  · subst hq
    simp [updV, vp_updL]
  · simp [updV, vp_updL, hq]
theorem mD_aast (C : mm_D hh d y cc nL ret oz hz V) {t ci : Nat} {i : Int32} {v : Option Nat} {q9 : vw_C} (ht : ∀ G : mm_G, (mm_tys G)[t]? = some (G.2.1 t, .object q9.1)) (ht2 : t ≠ 2 ∧ t ≠ 7) (hci : ci ≠ 13) (hc : mm_cl[ci]? = some q9) (hd : decode cc pc = .ok (.aastore, 1)) (hg : sR h r t ci i v = some h1) (kk : V (pc + 1) lv st h1) : V pc lv (va_rf v :: .int i :: va_rf r :: st) h := by
  obtain ⟨a, b, n, f, fs, rfl, rfl, ea, eb, hin, b1, rfl⟩ := sR_some hg
  obtain ⟨p, l, e, s, m, args, below, meth, c, h0, G, ⟨hsl, hx, hb, hml, hr, hlk, hown, hnm, htab⟩, hts, hSt, hNc, rfl⟩ := C
  intro H locs ls hls a1 a2 a3 a4
  obtain ⟨b1, b2⟩ := a1.hia ht2 ea
  obtain ⟨b3, b4⟩ := a1.hi hci eb
  have hK := hSt.2.1
  have hlt : i.toNatClampNeg < n := Nat.not_le.mp fun q => hin (Or.inr q)
  have h0' : ¬ i < 0 := fun q => hin (Or.inl q)
  obtain ⟨r', hr', cellV, g1, g2, g3, -⟩ := a1.at b3 b4 (e := .inr (ci, fs.map (mm_v G))) (by rw [eb]; rfl)
  have hcls := (hK.1 ci q9 hc).2
  obtain ⟨kA, comp, k1, k2, k3, -⟩ := (hK.2 t _ (ht G)).2
  have hcomp : comp = G.1.1 ci := Option.some.inj (k3.symm.trans hcls.1)
  subst hcomp
  obtain ⟨kC, hkC, -⟩ := hcls.2
  refine W.aast hx hb (a1.at b1 b2 (e := .inl (G.2.1 t, n, .inr (.inr (.inr (.inr (fun j => (f j).map (mm_ad G))))))) (by rw [ea]; rfl)) (fun q h => by cases h) (fun h => by cases h) k1 k2 rfl hkC ⟨h0', by show _ < (arrV _ _ _).slots.size; rw [arrV_size]; exact hlt⟩ g1 (fun q h => by rw [g3] at h; cases h) (by rw [g2]; exact hkC) (by rw [g2]; exact va_assign hcls) rfl rfl hd fun H1 e z oq => ?_
  refine kk H1 _ ls hls (a1.set b1 b2 z oq (fun e9 he9 => ?_)) (mm_locs b1 a2) a3 a4
  cases he9
  show H1[_]? = some (vp_cell _ _)
  rw [e]
  show some ((arrV (G.2.1 t) n fun j => va_rf (Option.map (mm_ad G) (f j))).setSlot i.toNatClampNeg (Value.ref (mm_ad G b))) = some (arrV (G.2.1 t) n fun j => va_rf (Option.map (mm_ad G) (va_up f i.toNatClampNeg (some b) j)))
  rw [arrV_store]
  congr 2
  funext q
  by_cases hq : q = i.toNatClampNeg
  · subst hq
    simp [updV, va_up, va_rf]
  · simp [updV, va_up, hq]
theorem mD_new (C : mm_D hh d y cc nL ret oz hz V) {R : String} {T : u_T} {N ci idx : Nat} {fs : List Value} (hin : ∀ w ∈ u_ws R T N, w ∈ lw_good) (ty0 : Nat → FieldType) (hty : ∀ k, k < N → parseFieldDescriptor (T k).2.2.1 = some (ty0 k)) (hc : mm_cl[ci]? = some (R, T, N)) (hw1 : Cond.classLink y.cls idx R ∈ lw_good) (hw2 : Cond.instantiable R N ∈ lw_good) (hw3 : Cond.initialized R ∈ lw_good) (hfs : ∀ j, j < N → defaultValue (ty0 j) = vp_V fs j) (hfm : ∀ G : mm_G, fs.map (mm_v G) = fs) (hd : decode cc pc = .ok (.new idx, 3)) (hg : nO h ci fs N = some (r, h1)) (kk : V (pc + 3) lv (va_rf r :: st) h1) : V pc lv st h := by
  obtain ⟨c1, c2, rfl, rfl⟩ := hN_some hg
  obtain ⟨p, l, e, s, m, args, below, meth, c, h0, G, ⟨hsl, hx, hb, hml, hr, hlk, hown, hnm, htab⟩, hts, hSt, hNc, rfl⟩ := C
  intro H locs ls hls a1 a2 a3 a4
  have hKn := hSt.2.1.1 ci _ hc
  have q1 : (mm_rm d h0).cells = mm_capC - h0.2.1 := rfl
  have q2 : (mm_rm d h0).slots = mm_capS - h0.2.2 := rfl
  refine W.newcK hx hb hown (hts _ hw1) (hts _ hw2) (hts _ hw3) rfl hd (by rw [q1]; omega) (by rw [q2]; omega) hKn.2.1 rfl fun H1 kC hkC e1 z1 o1 => ?_
  have hsz := a1.2.1
  have hlo := a1.1.1
  refine W.cs (cells' := h.2.1 + 1 - h0.2.1) (slots' := h.2.2 + N - h0.2.2) (by omega) (by omega) ?_
  have k9 := kk H1 locs ls hls (a1.push ⟨c1, c2⟩ z1 o1 (fun e9 he9 => by
    cases he9
    exact ⟨_, hc, (u_born ty0 hts hin hKn hkC e1 hty).to (by rw [hfm G]; exact hfs)⟩)) a2 (Nat.le_succ_of_le a3) (Nat.le_trans a4 (Nat.le_add_right _ _))
  have e2 : mm_v G (va_rf (some h.2.1)) = .ref H.size := by
    show Value.ref (mm_ad G h.2.1) = _
    rw [mm_ad_hi hlo, hsz]
  rw [List.map_cons, e2] at k9
  exact k9
theorem mD_newa (C : mm_D hh d y cc nL ret oz hz V) {n : Int32} {at_ : ArrayType} {ty : FieldType} (t : Nat) {x : mm_Cl} {x9 : vp_A} (hty : newarray.typeOf at_ = ty) (hw : Cond.arrayClass ty ∈ lw_good) (ht : ∀ G : mm_G, (mm_tys G)[t]? = some (G.2.1 t, ty)) (hra : ∀ (U : State) (cA : ClassId), va_RA U cA ty → U.vm.findClass ("[" ++ ty.toString) = some cA) (hn : ¬ n < 0) (hcb : componentBytes ty ≤ 8) (hxe : ∀ G : mm_G, mm_e G x = some (.inl (G.2.1 t, x9))) (hx9 : ∀ cA : ClassId, vp_cell cA x9 = arrV cA n.toNatClampNeg (fun _ => defaultValue ty)) (hd : decode cc pc = .ok (.newarray at_, 2)) (hg : hN h x n.toNatClampNeg = some (r, h1)) (kk : V (pc + 2) lv (va_rf r :: st) h1) : V pc lv (.int n :: st) h := by
  obtain ⟨c1, c2, rfl, rfl⟩ := hN_some hg
  obtain ⟨p, l, e, s, m, args, below, meth, c, h0, G, ⟨hsl, hx, hb, hml, hr, hlk, hown, hnm, htab⟩, hts, hSt, hNc, rfl⟩ := C
  intro H locs ls hls a1 a2 a3 a4
  subst hty
  have q1 : (mm_rm d h0).cells = mm_capC - h0.2.1 := rfl
  have q2 : (mm_rm d h0).slots = mm_capS - h0.2.2 := rfl
  have hcap : n.toNatClampNeg ≤ 7293034 := by have : mm_capS = 7293034 := rfl; omega
  refine va_newaK hx hb (hts _ hw) rfl hd rfl hn rfl (Nat.le_trans (Nat.mul_le_mul hcap hcb) (by decide)) (by rw [q1]; omega) (by rw [q2]; omega) rfl fun H1 cA e1 z1 o1 hAr hNm => ?_
  have hcA : cA = G.2.1 t := Option.some.inj (hNm.symm.trans (hra s _ (hSt.2.1.2 t _ (ht G)).2))
  subst hcA
  have hsz := a1.2.1
  have hlo := a1.1.1
  refine W.cs (cells' := h.2.1 + 1 - h0.2.1) (slots' := h.2.2 + n.toNatClampNeg - h0.2.2) (by omega) (by omega) ?_
  have k9 := kk H1 locs ls hls (a1.push ⟨c1, c2⟩ z1 o1 (fun e9 he9 => by
    rw [hxe G] at he9
    cases he9
    show H1[H.size]? = some (vp_cell _ _)
    rw [hx9]
    exact e1)) a2 (Nat.le_succ_of_le a3) (Nat.le_trans a4 (Nat.le_add_right _ _))
  have e2 : mm_v G (va_rf (some h.2.1)) = .ref H.size := by
    show Value.ref (mm_ad G h.2.1) = _
    rw [mm_ad_hi hlo, hsz]
  rw [List.map_cons, e2] at k9
  exact k9
theorem mD_newI (C : mm_D hh d y cc nL ret oz hz V) {n : Int32} (hw : Cond.arrayClass .int ∈ lw_good) (hd : decode cc pc = .ok (.newarray .int, 2)) (hg : nI_ h 0 n = some (r, h1)) (kk : V (pc + 2) lv (va_rf r :: st) h1) : V pc lv (.int n :: st) h := mD_newa C 0 (at_ := .int) (ty := .int) (x9 := (n.toNatClampNeg, .inl (fun _ => 0))) rfl hw (fun _ => rfl) (fun _ _ q => q) (nI__some hg).1 (by decide) (fun _ => rfl) (fun _ => rfl) hd (nI__some hg).2 kk
theorem mD_newB (C : mm_D hh d y cc nL ret oz hz V) {n : Int32} (hw : Cond.arrayClass .byte ∈ lw_good) (hd : decode cc pc = .ok (.newarray .byte, 2)) (hg : nI_ h 2 n = some (r, h1)) (kk : V (pc + 2) lv (va_rf r :: st) h1) : V pc lv (.int n :: st) h := mD_newa C 2 (at_ := .byte) (ty := .byte) (x9 := (n.toNatClampNeg, .inl (fun _ => 0))) rfl hw (fun _ => rfl) (fun _ _ q => q) (nI__some hg).1 (by decide) (fun _ => rfl) (fun _ => rfl) hd (nI__some hg).2 kk
theorem mD_newZ (C : mm_D hh d y cc nL ret oz hz V) {n : Int32} (hw : Cond.arrayClass .boolean ∈ lw_good) (hd : decode cc pc = .ok (.newarray .boolean, 2)) (hg : nI_ h 3 n = some (r, h1)) (kk : V (pc + 2) lv (va_rf r :: st) h1) : V pc lv (.int n :: st) h := mD_newa C 3 (at_ := .boolean) (ty := .boolean) (x9 := (n.toNatClampNeg, .inl (fun _ => 0))) rfl hw (fun _ => rfl) (fun _ _ q => q) (nI__some hg).1 (by decide) (fun _ => rfl) (fun _ => rfl) hd (nI__some hg).2 kk
theorem mD_newJ (C : mm_D hh d y cc nL ret oz hz V) {n : Int32} (hw : Cond.arrayClass .long ∈ lw_good) (hd : decode cc pc = .ok (.newarray .long, 2)) (hg : nL_ h n = some (r, h1)) (kk : V (pc + 2) lv (va_rf r :: st) h1) : V pc lv (.int n :: st) h := by
  unfold nL_ at hg
  split at hg
  · cases hg
  · rename_i hn
    exact mD_newa C 1 (at_ := .long) (ty := .long) (x9 := (n.toNatClampNeg, .inr (.inl (fun _ => 0)))) rfl hw (fun _ => rfl) (fun _ _ q => q) hn (by decide) (fun _ => rfl) (fun _ => rfl) hd hg kk
theorem mD_anew (C : mm_D hh d y cc nL ret oz hz V) {n : Int32} {E : String} {idx : Nat} (t : Nat) (hw1 : Cond.classLink y.cls idx E ∈ lw_good) (hw2 : Cond.arrayOver (.object E) ∈ mm_nw) (ht : ∀ G : mm_G, (mm_tys G)[t]? = some (G.2.1 t, .object E)) (hd : decode cc pc = .ok (.anewarray idx, 3)) (hg : nR_ h t n = some (r, h1)) (kk : V (pc + 3) lv (va_rf r :: st) h1) : V pc lv (.int n :: st) h := by
  unfold nR_ at hg
  split at hg
  · cases hg
  rename_i hn
  obtain ⟨c1, c2, rfl, rfl⟩ := hN_some hg
  obtain ⟨p, l, e, s, m, args, below, meth, c, h0, G, ⟨hsl, hx, hb, hml, hr, hlk, hown, hnm, htab⟩, hts, hSt, hNc, rfl⟩ := C
  intro H locs ls hls a1 a2 a3 a4
  have q1 : (mm_rm d h0).cells = mm_capC - h0.2.1 := rfl
  have q2 : (mm_rm d h0).slots = mm_capS - h0.2.2 := rfl
  have hcap : n.toNatClampNeg ≤ 7293034 := by have : mm_capS = 7293034 := rfl; omega
  refine W.anew hx hb hown (hts _ hw1) (va_AO.use (hSt.2.2.2.2.2.2.2.2.1 _ hw2)) rfl hd rfl hn (by omega) (by rw [q1]; omega) (by rw [q2]; omega) fun cA kA comp k1 k2 k3 k4 => ?_
  have hcA : cA = G.2.1 t := by
    obtain ⟨_, _, -, -, -, k5⟩ := (hSt.2.1.2 t _ (ht G)).2
    exact Option.some.inj (k1.symm.trans k5)
  subst hcA
  have hsz := a1.2.1
  have hlo := a1.1.1
  refine W.cs (cells' := h.2.1 + 1 - h0.2.1) (slots' := h.2.2 + n.toNatClampNeg - h0.2.2) (by omega) (by omega) ?_
  have k9 := kk (H.push { cls := G.2.1 t, slots := Array.replicate n.toNatClampNeg .null, vm := .none }) locs ls hls (a1.push ⟨c1, c2⟩ (by simp) (fun q hq => by rw [Array.getElem?_push, if_neg (Nat.ne_of_lt hq)]) (fun e9 he9 => by
    cases he9
    show (H.push _)[H.size]? = some (vp_cell _ _)
    rw [vp_cell_q]
    simp only [Array.getElem?_push_size, Option.some.injEq, arrV, Cell.mk.injEq, true_and, and_true]
    apply Array.ext
    · simp
    · intro i _ _
      simp [va_rf])) a2 (Nat.le_succ_of_le a3) (Nat.le_trans a4 (Nat.le_add_right _ _))
  have e2 : mm_v G (va_rf (some h.2.1)) = .ref H.size := by
    show Value.ref (mm_ad G h.2.1) = _
    rw [mm_ad_hi hlo, hsz]
  rw [List.map_cons, e2] at k9
  exact k9
theorem mD_sald (C : mm_D hh d y cc nL ret oz hz V) {i v : Int32} (hd : decode cc pc = .ok (.iaload, 1)) (hg : aS h r i = some v) (kk : V (pc + 1) lv (.int v :: st) h) : V pc lv (.int i :: va_rf r :: st) h := by
  unfold aS at hg
  split at hg
  case isFalse => cases hg
  rename_i hr9
  obtain ⟨a, n, f, rfl, ea, hin, rfl⟩ := aI_some hg
  cases hr9
  obtain ⟨p, l, e, s, m, args, below, meth, c, h0, G, ⟨hsl, hx, hb, hml, hr, hlk, hown, hnm, htab⟩, hts, hSt, hNc, rfl⟩ := C
  intro H locs ls hls a1 a2 a3 a4
  have k9 := kk H locs ls hls a1 a2 a3 a4
  obtain ⟨L, xs, e1, scr, t1, t2, t3, t4, ha⟩ := mm_scr a1 (by decide) ea
  cases e1
  have hlt : i.toNatClampNeg < n := Nat.not_le.mp fun q => hin (Or.inr q)
  exact W.iald hx hb t1 (hSt.2.2.2.2.2.2.2.2.2 scr ha) t2 (by rw [t3]; exact hin) (v := .int (f i.toNatClampNeg)) (t4 _ hlt) rfl rfl hd k9
theorem mD_slen (C : mm_D hh d y cc nL ret oz hz V) {v : Int32} (hd : decode cc pc = .ok (.arraylength, 1)) (hg : aSN h r = some v) (kk : V (pc + 1) lv (.int v :: st) h) : V pc lv (va_rf r :: st) h := by
  unfold aSN at hg
  split at hg
  case isFalse => cases hg
  rename_i hr9
  obtain ⟨hg1, ht⟩ := aNt_some hg
  obtain ⟨a, t, n, f, rfl, ea, rfl⟩ := aN_some hg1
  have ht1 := ht a t n f rfl ea
  subst ht1
  cases hr9
  obtain ⟨p, l, e, s, m, args, below, meth, c, h0, G, ⟨hsl, hx, hb, hml, hr, hlk, hown, hnm, htab⟩, hts, hSt, hNc, rfl⟩ := C
  intro H locs ls hls a1 a2 a3 a4
  have k9 := kk H locs ls hls a1 a2 a3 a4
  obtain ⟨L, xs, e1, scr, t1, t2, t3, t4, ha⟩ := mm_scr a1 (by decide) ea
  exact W.alen hx hb t1 (hSt.2.2.2.2.2.2.2.2.2 scr ha) (by rw [t3]) rfl rfl hd k9
theorem mD_getS (C : mm_D hh d y cc nL ret oz hz V) {k idx : Nat} {v : Value} (hk : k < 2) (hw : Cond.fieldLink y.cls idx (mm_TS k).1 (mm_TS k).2.1 (mm_TS k).2.2.1 ∈ lw_good) (hd : decode cc pc = .ok (.getfield idx, 3)) (hg : gF h r 13 k = some v) (kk : V (pc + 3) lv (v :: st) h) : V pc lv (va_rf r :: st) h := by
  obtain ⟨a, fs, rfl, ea, ev⟩ := gF_some hg
  obtain ⟨p, l, e, s, m, args, below, meth, c, h0, G, ⟨hsl, hx, hb, hml, hr, hlk, hown, hnm, htab⟩, hts, hSt, hNc, rfl⟩ := C
  intro H locs ls hls a1 a2 a3 a4
  have k9 := kk H locs ls hls a1 a2 a3 a4
  have ha : a < 51 ∧ fs = [.ref (64 + a), .int 0] := by
    by_cases ha : a < 128
    · rw [a1.lo ha (by rw [ea]; intro n f z; cases z)] at ea
      unfold mm_ext at ea
      split at ea
      · rename_i h51
        simp only [Sum.inr.injEq, Option.some.injEq, Prod.mk.injEq, true_and] at ea
        exact ⟨h51, ea.symm⟩
      · split at ea <;> simp at ea
    · obtain ⟨g1, g2, g3, g4, g5, g6⟩ := a1
      have hlt : a < h.2.1 := Nat.not_le.mp fun q => by rw [g6 a q] at ea; cases ea
      obtain ⟨r9, r1, -⟩ := g5 a (Nat.not_lt.mp ha) hlt (.inr (13, fs.map (mm_v G))) (by rw [ea]; rfl)
      simp at r1
  obtain ⟨ha, rfl⟩ := ha
  obtain ⟨-, o1, o2, -⟩ := hSt.2.2.1 a ha
  have hkept : ∀ q : Nat, q < G.2.2.2.size → ¬ mm_A G q → H[q]? = G.2.2.2[q]? := fun q g1 _ => a1.2.2.1 q g1
  have e1 : mm_ad G a = G.2.2.1 a := by unfold mm_ad; rw [if_pos (by omega)]
  match k, hk, hw, ev with
  | 0, hk, hw, ev =>
    cases ev
    obtain ⟨cf, kf, fi, f, cell, t1, t2, t3, t4, t5, t6⟩ := o2.kept hkept
    have e2 : mm_v G (.ref (64 + a)) = .ref (G.2.2.1 (64 + a)) := by
      show Value.ref (mm_ad G (64 + a)) = _
      unfold mm_ad; rw [if_pos (by omega)]
    rw [List.map_cons, e2] at k9
    refine W.getf hx hb hown (hts _ hw) t1 t2 (a := mm_ad G a) (by rw [e1]; exact t3) t4 t5 rfl rfl hd k9
  | 1, hk, hw, ev =>
    cases ev
    obtain ⟨cf, kf, fi, f, cell, t1, t2, t3, t4, t5, t6⟩ := o1.kept hkept
    refine W.getf hx hb hown (hts _ hw) t1 t2 (a := mm_ad G a) (by rw [e1]; exact t3) t4 t5 rfl rfl hd k9
theorem mD_getSi (C : mm_D hh d y cc nL ret oz hz V) {idx : Nat} {v : Int32} (hw : Cond.fieldLink y.cls idx "java/lang/String" "coder" "B" ∈ lw_good) (hd : decode cc pc = .ok (.getfield idx, 3)) (hg : gI h r 13 1 = some v) (kk : V (pc + 3) lv (.int v :: st) h) : V pc lv (va_rf r :: st) h := mD_getS C (k := 1) (by decide) hw hd (gI_some hg) kk
theorem mD_getSr (C : mm_D hh d y cc nL ret oz hz V) {idx : Nat} {v : Option Nat} (hw : Cond.fieldLink y.cls idx "java/lang/String" "value" "[B" ∈ lw_good) (hd : decode cc pc = .ok (.getfield idx, 3)) (hg : gR h r 13 0 = some v) (kk : V (pc + 3) lv (va_rf v :: st) h) : V pc lv (va_rf r :: st) h := mD_getS C (k := 0) (by decide) hw hd (gR_some hg) kk
theorem mD_ldcS (C : mm_D hh d y cc nL ret oz hz V) {idx i : Nat} {tx : String} {bs : List Int32} (hi : i < 51) (hq : mm_strs[i]? = some (y.cls, idx, tx, bs)) (hd : decode cc pc = .ok (.ldc idx, 2)) (kk : V (pc + 2) lv (va_rf (some i) :: st) h) : V pc lv st h := by
  obtain ⟨p, l, e, s, m, args, below, meth, c, h0, G, ⟨hsl, hx, hb, hml, hr, hlk, hown, hnm, htab⟩, hts, hSt, hNc, rfl⟩ := C
  intro H locs ls hls a1 a2 a3 a4
  have k9 := kk H locs ls hls a1 a2 a3 a4
  have e2 : mm_v G (va_rf (some i)) = .ref (G.2.2.1 i) := by
    show Value.ref (mm_ad G i) = _
    unfold mm_ad; rw [if_pos (by omega)]
  rw [List.map_cons, e2] at k9
  have hz := hSt.2.2.2.1 i _ hq
  intro T hT X
  obtain ⟨t, b1, b2⟩ := k9 T hT X
  exact ⟨t, X.ldcString hx hown (text := tx) (a := G.2.2.1 i) hz.1 hz.2 (g := F0 m pc ls _) rfl (by rw [hb]; exact hd) t b1, b2⟩
theorem mD_getsC (C : mm_D hh d y cc nL ret oz hz V) {idx : Nat} (hw : Cond.fieldLink y.cls idx "java/lang/String" "COMPACT_STRINGS" "Z" ∈ lw_good) (hd : decode cc pc = .ok (.getstatic idx, 3)) (kk : V (pc + 3) lv (.int 1 :: st) h) : V pc lv st h := by
  obtain ⟨p, l, e, s, m, args, below, meth, c, h0, G, ⟨hsl, hx, hb, hml, hr, hlk, hown, hnm, htab⟩, hts, hSt, hNc, rfl⟩ := C
  intro H locs ls hls a1 a2 a3 a4
  have k9 := kk H locs ls hls a1 a2 a3 a4
  have hkept : ∀ q : Nat, q < G.2.2.2.size → ¬ mm_A G q → H[q]? = G.2.2.2[q]? := fun q g1 _ => a1.2.2.1 q g1
  obtain ⟨cf, kf, fi, f, a, cell, t1, t2, t3, t4, t5, t6, t7, t8⟩ := hSt.2.2.2.2.1.kept hkept
  exact W.gets hx hb hown (hts _ hw) t1 t2 t3 t4 t5 (by intro z; rw [z] at t6; cases t6) t7 rfl hd k9
theorem mD_iret (C : mm_D hh d y cc nL ret oz hz V) {x : Int32} (hret : ret = some .int) (hd : decode cc pc = .ok (.ireturn, 1)) (ho : oz = .inr (some (.int x))) (hh : hz = h) : V pc lv [.int x] h := by
  obtain ⟨p, l, e, s, m, args, below, meth, c, h0, G, ⟨hsl, hx, hb, hml, hr, hlk, hown, hnm, htab⟩, hts, hSt, hNc, rfl⟩ := C
  intro H locs ls hls a1 a2 a3 a4
  subst hret; subst ho; subst hh
  exact vx_ret (W.iret (v := x) hx hb hr (fun t ht hW => ⟨_, rfl, rfl, mm_S.of hSt.2 a1 ht hW, a3, a4⟩) a2 hd)
theorem mD_zret (C : mm_D hh d y cc nL ret oz hz V) {x : Int32} {ty : FieldType} (hret : ret = some ty) (hn : narrow ty (.int x) = .int x) (hd : decode cc pc = .ok (.ireturn, 1)) (ho : oz = .inr (some (.int x))) (hh : hz = h) : V pc lv [.int x] h := by
  obtain ⟨p, l, e, s, m, args, below, meth, c, h0, G, ⟨hsl, hx, hb, hml, hr, hlk, hown, hnm, htab⟩, hts, hSt, hNc, rfl⟩ := C
  intro H locs ls hls a1 a2 a3 a4
  subst hret; subst ho; subst hh
  exact vx_ret (W.zret (v := x) hx hb hr hn (fun t ht hW => ⟨_, rfl, rfl, mm_S.of hSt.2 a1 ht hW, a3, a4⟩) a2 hd)
theorem mD_lret (C : mm_D hh d y cc nL ret oz hz V) {x : Int64} (hret : ret = some .long) (hd : decode cc pc = .ok (.lreturn, 1)) (ho : oz = .inr (some (.long x))) (hh : hz = h) : V pc lv [.long x] h := by
  obtain ⟨p, l, e, s, m, args, below, meth, c, h0, G, ⟨hsl, hx, hb, hml, hr, hlk, hown, hnm, htab⟩, hts, hSt, hNc, rfl⟩ := C
  intro H locs ls hls a1 a2 a3 a4
  subst hret; subst ho; subst hh
  exact vx_ret (W.lret (v := x) hx hb hr (fun t ht hW => ⟨_, rfl, rfl, mm_S.of hSt.2 a1 ht hW, a3, a4⟩) a2 hd)
theorem mD_vret (C : mm_D hh d y cc nL ret oz hz V) (hret : ret = none) (hd : decode cc pc = .ok (.return_, 1)) (ho : oz = .inr none) (hh : hz = h) : V pc lv [] h := by
  obtain ⟨p, l, e, s, m, args, below, meth, c, h0, G, ⟨hsl, hx, hb, hml, hr, hlk, hown, hnm, htab⟩, hts, hSt, hNc, rfl⟩ := C
  intro H locs ls hls a1 a2 a3 a4
  subst hret; subst ho; subst hh
  exact vx_ret (W.vret hx hb hr (fun t ht hW => ⟨_, rfl, rfl, mm_S.of hSt.2 a1 ht hW, a3, a4⟩) a2 hd)
theorem mD_aret (C : mm_D hh d y cc nL ret oz hz V) {x : Option Nat} {rt : FieldType} (hret : ret = some rt) (hrt : (∃ n, rt = .object n) ∨ ∃ t, rt = .array t) (hd : decode cc pc = .ok (.areturn, 1)) (ho : oz = .inr (some (va_rf x))) (hh : hz = h) : V pc lv [va_rf x] h := by
  obtain ⟨p, l, e, s, m, args, below, meth, c, h0, G, ⟨hsl, hx, hb, hml, hr, hlk, hown, hnm, htab⟩, hts, hSt, hNc, rfl⟩ := C
  intro H locs ls hls a1 a2 a3 a4
  subst hret; subst ho; subst hh
  refine vx_ret (W.aret (v := mm_v G (va_rf x)) hx hb hr hrt ?_ (fun t ht hW => ⟨_, rfl, rfl, mm_S.of hSt.2 a1 ht hW, a3, a4⟩) a2 hd)
  cases x
  · exact Or.inl rfl
  · exact Or.inr ⟨_, rfl⟩
theorem mD_callV (C : mm_D hh d y cc nL ret oz hz V) {yk : MethodName} {bytes : ByteArray} {maxL n idx d1 : Nat} {rk : Option FieldType} {As : List Value} {ci : Nat} {vk : Option Value} (hM : mm_M yk bytes maxL rk d1 (va_rf r :: As) h (.inr vk) h1) (hT : mm_T yk bytes maxL rk n) (ho9 : oK h r ci = true) (hc9 : (ci = 13 ∧ yk.cls = "java/lang/String") ∨ ∃ q : vw_C, mm_cl[ci]? = some q ∧ q.1 = yk.cls) (hw1 : Cond.methodLink y.cls idx yk ∈ lw_good) (hw2 : Cond.instanceMethod yk ∈ lw_good) (hw3 : Cond.selects yk.cls yk yk ∈ lw_good) (hdd : d1 + 1 ≤ d) (hmx : maxL ≤ 80) (hn : As.length = n) (hst : (st.map fun v => v.category).sum ≤ 8) (hstk : stk = As.reverse ++ va_rf r :: st) (hd : decode cc pc = .ok (.invokevirtual idx, 3)) (kk : V (pc + 3) lv (vk.toList ++ st) h1) : V pc lv stk h := by
  subst hstk
  obtain ⟨p, l, e, s, m, args, below, meth, c, h0, G, ⟨hsl, hx, hb, hml, hr, hlk, hown, hnm, htab⟩, hts, hSt, hNc, rfl⟩ := C
  intro H locs ls hls a1 a2 a3 a4
  obtain ⟨b, rfl, cellB, hcB, hoB, hclB⟩ := mm_recv hSt.2 a1 ho9 hc9
  have hcat : ((st.map (mm_v G)).map fun v => v.category) = st.map fun v => v.category := by rw [List.map_map]; apply List.map_congr_left; intro v _; exact mm_v_cat G v
  have q1 : (mm_rm d h0).cells = mm_capC - h0.2.1 := rfl
  have q2 : (mm_rm d h0).slots = mm_capS - h0.2.2 := rfl
  have hcode := hts _ hT.1
  have hini := hts _ hT.2.1
  have hK := mm_callback (below := below) (e := e) (p := p) (s := s) (args := args) hM hT hts hsl hdd hmx (l := l) (G := G) (h0 := h0)
  have hlen : ∀ sig, parseMethodDescriptor yk.desc = some sig → (As.map (mm_v G)).length = sig.parameters.length := by
    intro sig hs
    have h2 := hT.2.2.2.2.2
    rw [hs] at h2
    rw [List.length_map, hn]
    exact (Option.some.inj h2).symm
  intro T9 hT9 X
  have hstack : (F0 m pc ls ((As.reverse ++ va_rf (some b) :: st).map (mm_v G))).stack = (As.map (mm_v G)).reverse ++ .ref (mm_ad G b) :: st.map (mm_v G) := by
    show (As.reverse ++ va_rf (some b) :: st).map (mm_v G) = _
    rw [List.map_append, List.map_reverse]; rfl
  rcases vx_callV X hx (C := yk.cls) (bytes := bytes) (maxL := maxL) (ret := rk) hown (hts _ hw1) (hts _ hw2) (hts _ hw3) hcode ⟨hT.2.2.2.1, hT.2.2.2.2.1⟩ hK (by rw [hT9]; exact hcB) hoB hclB rfl (by rw [show (F0 m pc ls ((As.reverse ++ va_rf (some b) :: st).map (mm_v G))).locals = ls from rfl, hls.1, hml]) (argsL := As.map (mm_v G)) (rest := st.map (mm_v G)) hlen hstack (by rw [hcat]; show 2 * 0 + _ ≤ 8; omega) (by rw [hb]; exact hd)
    (fun vm1 hW1 => ⟨by show h.2.1 - h0.2.1 + (mm_capC - h.2.1) ≤ mm_capC - h0.2.1; have := a1.1; omega, by show h.2.2 - h0.2.2 + (mm_capS - h.2.2) ≤ mm_capS - h0.2.2; have := a1.1; omega, rfl, by show mm_R G h T9.heap; rw [hT9]; exact a1, hSt.2.warm (U := T9.setVm vm1) hW1⟩) with ⟨v, vm1, ⟨U', l2, c2, s2⟩, hW1, X', hq, st1⟩ | ⟨q, vm1, ⟨U', l2, c2, s2⟩, hW1, X', hq, st1⟩
  · have kk9 := fun H9 locs9 ls9 => kk H9 locs9 ls9
    simp only [List.map_append, show (vk.toList.map (mm_v G)) = (vk.map (mm_v G)).toList from by cases vk <;> rfl] at kk9
    obtain ⟨g', mk, t, L, e1, e2, ⟨v', ho, hv, hS1, m1, m2⟩, b1, hL, b2, b3⟩ := hq
    cases ho
    cases hv
    dsimp only [Pt.U, Pt.locs, Pt.cells, Pt.slots] at X' e1 e2 b1 b2 b3 st1
    subst b1; subst b2; subst b3
    have hR1 : mm_R G h1 U'.heap := by rw [e1]; exact hS1.1
    have k9 := kk9 U'.heap (locs ++ L) ls hls hR1 (fun q hq => (List.mem_append.mp hq).elim (a2 q) (hL q)) (Nat.le_trans a3 m1) (Nat.le_trans a4 m2)
    rw [show h1.2.1 - h0.2.1 = h.2.1 - h0.2.1 + (h1.2.1 - h.2.1) by omega, show h1.2.2 - h0.2.2 = h.2.2 - h0.2.2 + (h1.2.2 - h.2.2) by omega] at k9
    obtain ⟨t2, k1, k2⟩ := k9 U' rfl X'
    exact ⟨t2, st1 t2 k1, k2⟩
  · exact (mm_noX _ _ _ _ hq).elim
theorem mD_callS (C : mm_D hh d y cc nL ret oz hz V) {yk : MethodName} {bytes : ByteArray} {maxL n idx d1 : Nat} {rk : Option FieldType} {As : List Value} {vk : Option Value} (hM : mm_M yk bytes maxL rk d1 As h (.inr vk) h1) (hT : mm_T yk bytes maxL rk n) (hw1 : Cond.methodLink y.cls idx yk ∈ lw_good) (hw2 : Cond.static yk ∈ lw_good) (hdd : d1 + 1 ≤ d) (hmx : maxL ≤ 80) (hn : As.length = n) (hst : (st.map fun v => v.category).sum ≤ 8) (hstk : stk = As.reverse ++ st) (hd : decode cc pc = .ok (.invokestatic idx, 3)) (kk : V (pc + 3) lv (vk.toList ++ st) h1) : V pc lv stk h := by
  subst hstk
  obtain ⟨p, l, e, s, m, args, below, meth, c, h0, G, ⟨hsl, hx, hb, hml, hr, hlk, hown, hnm, htab⟩, hts, hSt, hNc, rfl⟩ := C
  intro H locs ls hls a1 a2 a3 a4
  have hcat : ((st.map (mm_v G)).map fun v => v.category) = st.map fun v => v.category := by rw [List.map_map]; apply List.map_congr_left; intro v _; exact mm_v_cat G v
  have q1 : (mm_rm d h0).cells = mm_capC - h0.2.1 := rfl
  have q2 : (mm_rm d h0).slots = mm_capS - h0.2.2 := rfl
  have hcode := hts _ hT.1
  have hini := hts _ hT.2.1
  have hK := mm_callback (below := below) (e := e) (p := p) (s := s) (args := args) hM hT hts hsl hdd hmx (l := l) (G := G) (h0 := h0)
  have hlen : ∀ sig, parseMethodDescriptor yk.desc = some sig → (As.map (mm_v G)).length = sig.parameters.length := by
    intro sig hs
    have h2 := hT.2.2.2.2.2
    rw [hs] at h2
    rw [List.length_map, hn]
    exact (Option.some.inj h2).symm
  intro T9 hT9 X
  have hstack : (F0 m pc ls ((As.reverse ++ st).map (mm_v G))).stack = (As.map (mm_v G)).reverse ++ st.map (mm_v G) := by
    show (As.reverse ++ st).map (mm_v G) = _
    rw [List.map_append, List.map_reverse]
  rcases vx_callS X hx (bytes := bytes) (maxL := maxL) (ret := rk) hown (hts _ hw1) (hts _ hw2) hini hcode ⟨hT.2.2.2.1, hT.2.2.2.2.1⟩ hK rfl (by rw [show (F0 m pc ls ((As.reverse ++ st).map (mm_v G))).locals = ls from rfl, hls.1, hml]) (argsL := As.map (mm_v G)) (rest := st.map (mm_v G)) hlen hstack (by rw [hcat]; show 2 * 0 + _ ≤ 8; omega) (by rw [hb]; exact hd)
    (fun vm1 hW1 => ⟨by show h.2.1 - h0.2.1 + (mm_capC - h.2.1) ≤ mm_capC - h0.2.1; have := a1.1; omega, by show h.2.2 - h0.2.2 + (mm_capS - h.2.2) ≤ mm_capS - h0.2.2; have := a1.1; omega, rfl, by show mm_R G h T9.heap; rw [hT9]; exact a1, hSt.2.warm (U := T9.setVm vm1) hW1⟩) with ⟨v, vm1, ⟨U', l2, c2, s2⟩, hW1, X', hq, st1⟩ | ⟨q, vm1, ⟨U', l2, c2, s2⟩, hW1, X', hq, st1⟩
  · have kk9 := fun H9 locs9 ls9 => kk H9 locs9 ls9
    simp only [List.map_append, show (vk.toList.map (mm_v G)) = (vk.map (mm_v G)).toList from by cases vk <;> rfl] at kk9
    obtain ⟨g', mk, t, L, e1, e2, ⟨v', ho, hv, hS1, m1, m2⟩, b1, hL, b2, b3⟩ := hq
    cases ho
    cases hv
    dsimp only [Pt.U, Pt.locs, Pt.cells, Pt.slots] at X' e1 e2 b1 b2 b3 st1
    subst b1; subst b2; subst b3
    have hR1 : mm_R G h1 U'.heap := by rw [e1]; exact hS1.1
    have k9 := kk9 U'.heap (locs ++ L) ls hls hR1 (fun q hq => (List.mem_append.mp hq).elim (a2 q) (hL q)) (Nat.le_trans a3 m1) (Nat.le_trans a4 m2)
    rw [show h1.2.1 - h0.2.1 = h.2.1 - h0.2.1 + (h1.2.1 - h.2.1) by omega, show h1.2.2 - h0.2.2 = h.2.2 - h0.2.2 + (h1.2.2 - h.2.2) by omega] at k9
    obtain ⟨t2, k1, k2⟩ := k9 U' rfl X'
    exact ⟨t2, st1 t2 k1, k2⟩
  · exact (mm_noX _ _ _ _ hq).elim
theorem mD_callI (C : mm_D hh d y cc nL ret oz hz V) {yk : MethodName} {bytes : ByteArray} {maxL n idx d1 : Nat} {As : List Value} {b : Nat} (nest : Bool) (hM : mm_M yk bytes maxL none d1 (va_rf (some b) :: As) h (.inr none) h1) (hT : mm_T yk bytes maxL none n) (hy1 : yk.name = "<init>") (hw1 : if nest = true then Cond.methodLinkNest y.cls idx yk "CrossedLines" ∈ mm_nw else Cond.methodLink y.cls idx yk ∈ lw_good) (hw2 : Cond.instanceMethod yk ∈ lw_good) (hdd : d1 + 1 ≤ d) (hmx : maxL ≤ 80) (hn : As.length = n) (hst : (st.map fun v => v.category).sum ≤ 8) (hstk : stk = As.reverse ++ va_rf (some b) :: st) (hd : decode cc pc = .ok (.invokespecial idx, 3)) (kk : V (pc + 3) lv st h1) : V pc lv stk h := by
  subst hstk
  obtain ⟨p, l, e, s, m, args, below, meth, c, h0, G, ⟨hsl, hx, hb, hml, hr, hlk, hown, hnm, htab⟩, hts, hSt, hNc, rfl⟩ := C
  intro H locs ls hls a1 a2 a3 a4
  have hcat : ((st.map (mm_v G)).map fun v => v.category) = st.map fun v => v.category := by rw [List.map_map]; apply List.map_congr_left; intro v _; exact mm_v_cat G v
  have q1 : (mm_rm d h0).cells = mm_capC - h0.2.1 := rfl
  have q2 : (mm_rm d h0).slots = mm_capS - h0.2.2 := rfl
  have hcode := hts _ hT.1
  have hini := hts _ hT.2.1
  have hK := mm_callback (below := below) (e := e) (p := p) (s := s) (args := args) hM hT hts hsl hdd hmx (l := l) (G := G) (h0 := h0)
  have hlen : ∀ sig, parseMethodDescriptor yk.desc = some sig → (As.map (mm_v G)).length = sig.parameters.length := by
    intro sig hs
    have h2 := hT.2.2.2.2.2
    rw [hs] at h2
    rw [List.length_map, hn]
    exact (Option.some.inj h2).symm
  intro T9 hT9 X
  have hstack : (F0 m pc ls ((As.reverse ++ va_rf (some b) :: st).map (mm_v G))).stack = (As.map (mm_v G)).reverse ++ .ref (mm_ad G b) :: st.map (mm_v G) := by
    show (As.reverse ++ va_rf (some b) :: st).map (mm_v G) = _
    rw [List.map_append, List.map_reverse]; rfl
  have hK2 := mm_backN hK mm_noX
  have hP : ∀ vm1, s.WarmedH vm1 → mm_PreOf (mm_rm d h0) (mm_rm d1 h) (mm_Pc G (va_rf (some b) :: As) h) ⟨T9.setVm vm1, locs, h.2.1 - h0.2.1, h.2.2 - h0.2.2⟩ (Value.ref (mm_ad G b) :: As.map (mm_v G)).toArray := fun vm1 hW1 => ⟨by show h.2.1 - h0.2.1 + (mm_capC - h.2.1) ≤ mm_capC - h0.2.1; have := a1.1; omega, by show h.2.2 - h0.2.2 + (mm_capS - h.2.2) ≤ mm_capS - h0.2.2; have := a1.1; omega, rfl, by show mm_R G h T9.heap; rw [hT9]; exact a1, hSt.2.warm (U := T9.setVm vm1) hW1⟩
  have hsz : (F0 m pc ls ((As.reverse ++ va_rf (some b) :: st).map (mm_v G))).locals.size = c.maxLocals := by rw [show (F0 m pc ls ((As.reverse ++ va_rf (some b) :: st).map (mm_v G))).locals = ls from rfl, hls.1, hml]
  have key : ∃ (v : Option Value) (vm1 : Vm) (B : Pt), s.WarmedH vm1 ∧ Stand p l e (mm_rm d h0) s m args below meth c B.U B.locs B.cells B.slots ∧ PostOf (mm_Qc G h (.inr none) h1) (h1.2.1 - h.2.1) (h1.2.2 - h.2.2) (mm_A G) ⟨T9.setVm vm1, locs, h.2.1 - h0.2.1, h.2.2 - h0.2.2⟩ (Value.ref (mm_ad G b) :: As.map (mm_v G)).toArray v B ∧ ∀ target, Steps p.tables e below (B.U.setTop { F0 m pc ls ((As.reverse ++ va_rf (some b) :: st).map (mm_v G)) with pc := pc + 3, stack := v.toList ++ st.map (mm_v G) }) target → Steps p.tables e below (T9.setTop (F0 m pc ls ((As.reverse ++ va_rf (some b) :: st).map (mm_v G)))) target := by
    cases nest with
    | false => exact callI X hx (bytes := bytes) (maxL := maxL) hown hy1 (hts _ hw1) (hts _ hw2) hcode ⟨hT.2.2.2.1, hT.2.2.2.2.1⟩ hK2 rfl hsz (a := mm_ad G b) (argsL := As.map (mm_v G)) (rest := st.map (mm_v G)) hlen hstack (by rw [hcat]; show 2 * 0 + _ ≤ 8; omega) (by rw [hb]; exact hd) hP
    | true => exact va_callIN X hx (host := "CrossedLines") (bytes := bytes) (maxL := maxL) hown hy1 (mm_nw_use hSt.2 hw1) (hts _ hw2) hcode ⟨hT.2.2.2.1, hT.2.2.2.2.1⟩ hK2 rfl hsz (a := mm_ad G b) (argsL := As.map (mm_v G)) (rest := st.map (mm_v G)) hlen hstack (by rw [hcat]; show 2 * 0 + _ ≤ 8; omega) (by rw [hb]; exact hd) hP
  obtain ⟨v, vm1, ⟨U', l2, c2, s2⟩, hW1, X', hq, st1⟩ := key
  obtain ⟨g', mk, t, L, e1, e2, ⟨v', ho, hv, hS1, m1, m2⟩, b1, hL, b2, b3⟩ := hq
  cases ho
  cases hv
  dsimp only [Pt.U, Pt.locs, Pt.cells, Pt.slots] at X' e1 e2 b1 b2 b3 st1
  subst b1; subst b2; subst b3
  have hR1 : mm_R G h1 U'.heap := by rw [e1]; exact hS1.1
  have k9 := kk U'.heap (locs ++ L) ls hls hR1 (fun q hq => (List.mem_append.mp hq).elim (a2 q) (hL q)) (Nat.le_trans a3 m1) (Nat.le_trans a4 m2)
  rw [show h1.2.1 - h0.2.1 = h.2.1 - h0.2.1 + (h1.2.1 - h.2.1) by omega, show h1.2.2 - h0.2.2 = h.2.2 - h0.2.2 + (h1.2.2 - h.2.2) by omega] at k9
  obtain ⟨t2, k1, k2⟩ := k9 U' rfl X'
  exact ⟨t2, st1 t2 k1, k2⟩
theorem mD_objInit (C : mm_D hh d y cc nL ret oz hz V) {idx b : Nat} (hw1 : Cond.methodLink y.cls idx Lib.objectInit ∈ lw_good) (hw2 : Cond.instanceMethod Lib.objectInit ∈ lw_good) (hw3 : Cond.code Lib.objectInit ⟨#[0xb1]⟩ 1 none ∈ lw_good) (hdd : 1 ≤ d) (hst : (st.map fun v => v.category).sum ≤ 8) (hd : decode cc pc = .ok (.invokespecial idx, 3)) (kk : V (pc + 3) lv st h) : V pc lv (va_rf (some b) :: st) h := by
  obtain ⟨p, l, e, s, m, args, below, meth, c, h0, G, ⟨hsl, hx, hb, hml, hr, hlk, hown, hnm, htab⟩, hts, hSt, hNc, rfl⟩ := C
  intro H locs ls hls a1 a2 a3 a4
  have hcat : ((st.map (mm_v G)).map fun v => v.category) = st.map fun v => v.category := by rw [List.map_map]; apply List.map_congr_left; intro v _; exact mm_v_cat G v
  exact W.objInit hx hb hown (hts _ hw1) (hts _ hw2) (hts _ hw3) rfl (by rw [show (F0 m pc ls ((va_rf (some b) :: st).map (mm_v G))).locals = ls from rfl, hls.1, hml]) rfl hd (by show 1 ≤ d; exact hdd) (by rw [hcat]; show 2 * 0 + _ + 12 ≤ 100 * d; omega) (kk H locs ls hls a1 a2 a3 a4)
theorem mD_acmp_ne (C : mm_D hh d y cc nL ret oz hz V) {rx ry : Option Nat} {off : Int} {tgt : Nat} (hd : decode cc pc = .ok (.if_acmp .ne off, 3)) (ht : (pc : Int) + off = (tgt : Int)) (g1 : rOK rx = true) (g2 : rOK ry = true) (kt : ¬ rx = ry → V tgt lv st h) (kf : rx = ry → V (pc + 3) lv st h) : V pc lv (va_rf ry :: va_rf rx :: st) h := by
  obtain ⟨p, l, e, s, m, args, below, meth, c, h0, G, ⟨hsl, hx, hb, hml, hr, hlk, hown, hnm, htab⟩, hts, hSt, hNc, rfl⟩ := C
  intro H locs ls hls a1 a2 a3 a4
  show W _ _ _ _ _ _ _ _ _ _ _ _ _ _ _ (F0 m pc ls (mm_v G (va_rf ry) :: mm_v G (va_rf rx) :: st.map (mm_v G)))
  rw [mm_v_rf, mm_v_rf]
  exact lv_acmp_ne hx hb hd ht (fun q => kt (fun z => q ((mm_inj g1 g2).mpr z)) H locs ls hls a1 a2 a3 a4) (fun q => kf ((mm_inj g1 g2).mp q) H locs ls hls a1 a2 a3 a4)
theorem mD_copy (C : mm_D hh d y cc nL ret oz hz V) {idx : Nat} {sp dp n : Int32} (hw1 : Cond.methodLink y.cls idx arraycopyName ∈ lw_good) (hw2 : Cond.native arraycopyName ∈ lw_good) (hw3 : Cond.static arraycopyName ∈ lw_good) (hw4 : Cond.initialized "java/lang/System" ∈ lw_good) (hdd : 1 ≤ d) (hst : (st.map fun v => v.category).sum ≤ 8) (hd : decode cc pc = .ok (.invokestatic idx, 3)) (hg : cpI h r sp w dp n = some h1) (kk : V (pc + 3) lv st h1) : V pc lv (.int n :: .int dp :: va_rf w :: .int sp :: va_rf r :: st) h := by
  obtain ⟨a, b, n0, n1, f, g, rfl, rfl, ea, eb, ⟨g1, g2, g3, g4, g5⟩, b1, rfl⟩ := cpI_some hg
  obtain ⟨p, l, e, s, m, args, below, meth, c, h0, G, ⟨hsl, hx, hb, hml, hr, hlk, hown, hnm, htab⟩, hts, hSt, hNc, rfl⟩ := C
  intro H locs ls hls a1 a2 a3 a4
  have hcat : ((st.map (mm_v G)).map fun v => v.category) = st.map fun v => v.category := by rw [List.map_map]; apply List.map_congr_left; intro v _; exact mm_v_cat G v
  obtain ⟨b1, b2⟩ := a1.hia ⟨by decide, by decide⟩ eb
  obtain ⟨b3, b4⟩ := a1.hia ⟨by decide, by decide⟩ ea
  have hc0 : H[mm_ad G a]? = some (vp_cell (G.2.1 0) (n0, .inl f)) := a1.at b3 b4 (e := .inl (G.2.1 0, n0, .inl f)) (by rw [ea]; rfl)
  have hc1 : H[mm_ad G b]? = some (vp_cell (G.2.1 0) (n1, .inl g)) := a1.at b1 b2 (e := .inl (G.2.1 0, n1, .inl g)) (by rw [eb]; rfl)
  have hK := hSt.2.1
  obtain ⟨-, k0, hk0, cm0, hkk0⟩ := (hK.2 0 _ rfl).1 n0 (fun j => .int (f j))
  obtain ⟨-, k1, hk1, cm1, hkk1⟩ := (hK.2 0 _ rfl).1 n1 (fun j => .int (g j))
  intro T hT X
  obtain ⟨vm', X', step⟩ := X.arraycopy hx hown (hts _ hw1) (hts _ hw2) (hts _ hw3) (hts _ hw4) (src := mm_ad G a) (dst := mm_ad G b) (cs := vp_cell (G.2.1 0) (n0, .inl f)) (cd := vp_cell (G.2.1 0) (n1, .inl g)) (srcPos := sp) (destPos := dp) (n := n) (by rw [hT]; exact hc0) (by rw [hT]; exact hc1)
    (fun _ h => by cases h) (fun _ h => by cases h) (fun h => by cases h) (fun h => by cases h) hk0 hk1 hkk0 hkk1 (by rfl) g1 g2 g3
    (by rw [mm_nn g1, mm_nn g3]; show ¬ _ > ((arrV (G.2.1 0) n0 (fun j => .int (f j))).slots.size : Int); rw [arrV_size]; omega)
    (by rw [mm_nn g2, mm_nn g3]; show ¬ _ > ((arrV (G.2.1 0) n1 (fun j => .int (g j))).slots.size : Int); rw [arrV_size]; omega)
    (fun vm₁ _ i hi => by
      have e9 : (vp_cell (G.2.1 0) (n0, .inl f)).slots.getD (sp.toNatClampNeg + i) .null = .int (f (sp.toNatClampNeg + i)) := by
        show (arrV (G.2.1 0) n0 (fun j => .int (f j))).slots.getD _ _ = _
        rw [Array.getD_eq_getD_getElem?, arrV_read _ _ (by omega)]
        rfl
      refine ⟨?_, ?_⟩
      · rw [e9]
        rfl
      · rw [e9]
        exact trivial)
    (g := F0 m pc ls (.int n :: .int dp :: .ref (mm_ad G b) :: .int sp :: .ref (mm_ad G a) :: st.map (mm_v G))) rfl (by show ls.size = c.maxLocals; rw [hls.1, hml]) (rest := st.map (mm_v G)) rfl (by rw [hb]; exact hd) (by show 1 ≤ d; exact hdd) (by rw [hcat]; have h9 : nativeFrameWords "java/lang/System" "arraycopy" 5 ≤ 70 := (by decide); show 2 * 0 + _ + _ ≤ 100 * d; omega)
  have e1 : copied (vp_cell (G.2.1 0) (n0, .inl f)) (vp_cell (G.2.1 0) (n1, .inl g)) sp dp n = vp_cell (G.2.1 0) (n1, .inl (va_cpy f g sp.toNatClampNeg dp.toNatClampNeg n.toNatClampNeg)) := va_copied (fun z => .int z) (G.2.1 0) (G.2.1 0) f g g4
  rw [e1] at X' step
  have hl : mm_ad G b < H.size := (Array.getElem?_eq_some_iff.mp hc1).1
  have hheap : ((T.setVm vm').setCell (mm_ad G b) (vp_cell (G.2.1 0) (n1, .inl (va_cpy f g sp.toNatClampNeg dp.toNatClampNeg n.toNatClampNeg)))).heap = H.setIfInBounds (mm_ad G b) (vp_cell (G.2.1 0) (n1, .inl (va_cpy f g sp.toNatClampNeg dp.toNatClampNeg n.toNatClampNeg))) := by rw [← hT]; rfl
  have oq : ∀ q : Nat, q ≠ mm_ad G b → (H.setIfInBounds (mm_ad G b) (vp_cell (G.2.1 0) (n1, .inl (va_cpy f g sp.toNatClampNeg dp.toNatClampNeg n.toNatClampNeg))))[q]? = H[q]? := fun q hq => by simp [Array.getElem?_setIfInBounds, Ne.symm hq]
  obtain ⟨t, k8, k9⟩ := kk _ _ ls hls (a1.set b1 b2 (by simp) oq (fun e9 he9 => by
    cases he9
    show (H.setIfInBounds (mm_ad G b) _)[mm_ad G b]? = some _
    simp [Array.getElem?_setIfInBounds, hl])) (fun q hq => by
      rcases List.mem_append.mp hq with h9 | h9
      · exact a2 q h9
      · obtain ⟨z, -, hz9⟩ := List.mem_map.mp h9
        rw [← hz9]
        show _ ≤ mm_ad G b
        rw [mm_ad_hi b1]; omega) a3 a4 _ hheap X'
  exact ⟨t, step t k8, k9⟩
theorem mD_getsF (C : mm_D hh d y cc nL ret oz hz V) {idx : Nat} (hw : Cond.fieldLink y.cls idx "jdk/internal/util/Preconditions" "SIOOBE_FORMATTER" "Ljava/util/function/BiFunction;" ∈ lw_good) (hd : decode cc pc = .ok (.getstatic idx, 3)) (kk : ∀ b : Bool, V (pc + 3) lv (va_rf (stF b) :: st) h) : V pc lv st h := by
  obtain ⟨p, l, e, s, m, args, below, meth, c, h0, G, ⟨hsl, hx, hb, hml, hr, hlk, hown, hnm, htab⟩, hts, hSt, hNc, rfl⟩ := C
  intro H locs ls hls a1 a2 a3 a4
  have hkept : ∀ q : Nat, q < G.2.2.2.size → ¬ mm_A G q → H[q]? = G.2.2.2[q]? := fun q g1 _ => a1.2.2.1 q g1
  rcases hSt.2.2.2.2.2.1 with hz | hz
  · obtain ⟨cf, kf, fi, f, a, cell, t1, t2, t3, t4, t5, t6, t7, t8⟩ := hz.kept hkept
    exact W.gets hx hb hown (hts _ hw) t1 t2 t3 t4 t5 (by intro z; rw [z] at t6; cases t6) t7 rfl hd (kk false H locs ls hls a1 a2 a3 a4)
  · obtain ⟨cf, kf, fi, f, a, cell, t1, t2, t3, t4, t5, t6, t7, t8⟩ := hz.kept hkept
    exact W.gets hx hb hown (hts _ hw) t1 t2 t3 t4 t5 (by intro z; rw [z] at t6; cases t6) t7 rfl hd (kk true H locs ls hls a1 a2 a3 a4)
theorem mD_puti (C : mm_D hh d y cc nL ret oz hz V) {R : String} {T : u_T} {N ci k idx : Nat} {x : Int32} (fin : Bool) (hini : fin = true → y.name = "<init>" ∧ (T k).1 = y.cls) (hin : ∀ w ∈ u_ws R T N, w ∈ lw_good) (ty0 : Nat → FieldType) (hty : ∀ k, k < N → parseFieldDescriptor (T k).2.2.1 = some (ty0 k)) (hnm0 : ∀ a, a < N → ∀ b, b < N → a ≠ b → (T a).2.1 ≠ (T b).2.1) (hc : mm_cl[ci]? = some (R, T, N)) (hk : k < N) (hw : Cond.fieldLink y.cls idx (T k).1 (T k).2.1 (T k).2.2.1 ∈ lw_good) (hfin : (T k).2.2.2 = fin) (hdy : ty0 k = .int) (hd : decode cc pc = .ok (.putfield idx, 3)) (hp : pI h r ci k x = some h1) (kk : V (pc + 3) lv st h1) : V pc lv (.int x :: va_rf r :: st) h :=
  mD_put C fin hin ty0 hty hnm0 hc hk hw hfin hini (by rw [hty k hk, hdy]) (fun _ => rfl) (fun _ => rfl) hd hp kk
theorem mD_putz (C : mm_D hh d y cc nL ret oz hz V) {R : String} {T : u_T} {N ci k idx : Nat} {x : Int32} (fin : Bool) (hini : fin = true → y.name = "<init>" ∧ (T k).1 = y.cls) (hin : ∀ w ∈ u_ws R T N, w ∈ lw_good) (ty0 : Nat → FieldType) (hty : ∀ k, k < N → parseFieldDescriptor (T k).2.2.1 = some (ty0 k)) (hnm0 : ∀ a, a < N → ∀ b, b < N → a ≠ b → (T a).2.1 ≠ (T b).2.1) (hc : mm_cl[ci]? = some (R, T, N)) (hk : k < N) (hw : Cond.fieldLink y.cls idx (T k).1 (T k).2.1 (T k).2.2.1 ∈ lw_good) (hfin : (T k).2.2.2 = fin) (hdy : ty0 k = .boolean) (hd : decode cc pc = .ok (.putfield idx, 3)) (hp : pZ h r ci k x = some h1) (kk : V (pc + 3) lv st h1) : V pc lv (.int x :: va_rf r :: st) h := by
  unfold pZ at hp
  split at hp
  case isFalse => cases hp
  rename_i hx
  exact mD_put C fin hin ty0 hty hnm0 hc hk hw hfin hini (by rw [hty k hk, hdy]) (fun _ => mm_nrZ hx) (fun _ => by rcases hx with rfl | rfl <;> rfl) hd hp kk
theorem mD_putl (C : mm_D hh d y cc nL ret oz hz V) {R : String} {T : u_T} {N ci k idx : Nat} {x : Int64} (fin : Bool) (hini : fin = true → y.name = "<init>" ∧ (T k).1 = y.cls) (hin : ∀ w ∈ u_ws R T N, w ∈ lw_good) (ty0 : Nat → FieldType) (hty : ∀ k, k < N → parseFieldDescriptor (T k).2.2.1 = some (ty0 k)) (hnm0 : ∀ a, a < N → ∀ b, b < N → a ≠ b → (T a).2.1 ≠ (T b).2.1) (hc : mm_cl[ci]? = some (R, T, N)) (hk : k < N) (hw : Cond.fieldLink y.cls idx (T k).1 (T k).2.1 (T k).2.2.1 ∈ lw_good) (hfin : (T k).2.2.2 = fin) (hdy : ty0 k = .long) (hd : decode cc pc = .ok (.putfield idx, 3)) (hp : pL h r ci k x = some h1) (kk : V (pc + 3) lv st h1) : V pc lv (.long x :: va_rf r :: st) h :=
  mD_put C fin hin ty0 hty hnm0 hc hk hw hfin hini (by rw [hty k hk, hdy]) (fun _ => rfl) (fun _ => rfl) hd hp kk
theorem mD_putr (C : mm_D hh d y cc nL ret oz hz V) {R : String} {T : u_T} {N ci k idx : Nat} {x : Option Nat} (fin : Bool) (hini : fin = true → y.name = "<init>" ∧ (T k).1 = y.cls) (hin : ∀ w ∈ u_ws R T N, w ∈ lw_good) (ty0 : Nat → FieldType) (hty : ∀ k, k < N → parseFieldDescriptor (T k).2.2.1 = some (ty0 k)) (hnm0 : ∀ a, a < N → ∀ b, b < N → a ≠ b → (T a).2.1 ≠ (T b).2.1) (hc : mm_cl[ci]? = some (R, T, N)) (hk : k < N) (hw : Cond.fieldLink y.cls idx (T k).1 (T k).2.1 (T k).2.2.1 ∈ lw_good) (hfin : (T k).2.2.2 = fin) (hdy : mm_isRT (ty0 k) = true) (hd : decode cc pc = .ok (.putfield idx, 3)) (hp : pR h r ci k x = some h1) (kk : V (pc + 3) lv st h1) : V pc lv (va_rf x :: va_rf r :: st) h := by
  have hh := hty k hk
  generalize ty0 k = t9 at hh hdy
  cases t9 <;> first | (cases hdy; done) | skip
  all_goals exact mD_put C fin hin ty0 hty hnm0 hc hk hw hfin hini hh (fun G => by cases x <;> rfl) (fun G => by cases x <;> rfl) hd hp kk
theorem mD_mmax (C : mm_D hh d y cc nL ret oz hz V) {idx : Nat} {x z : Int32} (hw1 : Cond.methodLink y.cls idx Lib.Math.max.name ∈ lw_good) (hw2 : Cond.static Lib.Math.max.name ∈ lw_good) (hw3 : Cond.initialized "java/lang/Math" ∈ lw_good) (hw4 : Cond.code Lib.Math.max.name Lib.Math.max.code 2 (some .int) ∈ lw_good) (hdd : 1 ≤ d) (hst : (st.map fun v => v.category).sum ≤ 8) (hd : decode cc pc = .ok (.invokestatic idx, 3)) (kk : V (pc + 3) lv (.int (mxI x z) :: st) h) : V pc lv (.int z :: .int x :: st) h := by
  obtain ⟨p, l, e, s, m, args, below, meth, c, h0, G, ⟨hsl, hx, hb, hml, hr, hlk, hown, hnm, htab⟩, hts, hSt, hNc, rfl⟩ := C
  intro H locs ls hls a1 a2 a3 a4
  have hcat : ((st.map (mm_v G)).map fun v => v.category) = st.map fun v => v.category := by rw [List.map_map]; apply List.map_congr_left; intro v _; exact mm_v_cat G v
  exact va_mmax hx hb (by rw [hls.1, hml]) hown (hts _ hw1) (hts _ hw2) (hts _ hw3) (hts _ hw4) (by show 1 ≤ d; exact hdd) (by rw [hcat]; show _ + _ ≤ 100 * d; omega) (by show _ ≤ mm_capC - h0.2.1; have := a1.1; omega) (by show _ ≤ mm_capS - h0.2.2; have := a1.1; omega) hd (kk H locs ls hls a1 a2 a3 a4)
theorem mD_mmin (C : mm_D hh d y cc nL ret oz hz V) {idx : Nat} {x z : Int32} (hw1 : Cond.methodLink y.cls idx Lib.Math.min.name ∈ lw_good) (hw2 : Cond.static Lib.Math.min.name ∈ lw_good) (hw3 : Cond.initialized "java/lang/Math" ∈ lw_good) (hw4 : Cond.code Lib.Math.min.name Lib.Math.min.code 2 (some .int) ∈ lw_good) (hdd : 1 ≤ d) (hst : (st.map fun v => v.category).sum ≤ 8) (hd : decode cc pc = .ok (.invokestatic idx, 3)) (kk : V (pc + 3) lv (.int (mnI x z) :: st) h) : V pc lv (.int z :: .int x :: st) h := by
  obtain ⟨p, l, e, s, m, args, below, meth, c, h0, G, ⟨hsl, hx, hb, hml, hr, hlk, hown, hnm, htab⟩, hts, hSt, hNc, rfl⟩ := C
  intro H locs ls hls a1 a2 a3 a4
  have hcat : ((st.map (mm_v G)).map fun v => v.category) = st.map fun v => v.category := by rw [List.map_map]; apply List.map_congr_left; intro v _; exact mm_v_cat G v
  exact va_mmin hx hb (by rw [hls.1, hml]) hown (hts _ hw1) (hts _ hw2) (hts _ hw3) (hts _ hw4) (by show 1 ≤ d; exact hdd) (by rw [hcat]; show _ + _ ≤ 100 * d; omega) (by show _ ≤ mm_capC - h0.2.1; have := a1.1; omega) (by show _ ≤ mm_capS - h0.2.2; have := a1.1; omega) hd (kk H locs ls hls a1 a2 a3 a4)
theorem mD_mmaxl (C : mm_D hh d y cc nL ret oz hz V) {idx : Nat} {x z : Int64} (hw1 : Cond.methodLink y.cls idx Lib.MathLoose.max_long.x ∈ lw_good) (hw2 : Cond.static Lib.MathLoose.max_long.x ∈ lw_good) (hw3 : Cond.initialized "java/lang/Math" ∈ lw_good) (hw4 : Cond.code Lib.MathLoose.max_long.x Lib.MathLoose.max_long.code 4 (some .long) ∈ lw_good) (hdd : 1 ≤ d) (hst : (st.map fun v => v.category).sum ≤ 8) (hd : decode cc pc = .ok (.invokestatic idx, 3)) (kk : V (pc + 3) lv (.long (mxL x z) :: st) h) : V pc lv (.long z :: .long x :: st) h := by
  obtain ⟨p, l, e, s, m, args, below, meth, c, h0, G, ⟨hsl, hx, hb, hml, hr, hlk, hown, hnm, htab⟩, hts, hSt, hNc, rfl⟩ := C
  intro H locs ls hls a1 a2 a3 a4
  have hcat : ((st.map (mm_v G)).map fun v => v.category) = st.map fun v => v.category := by rw [List.map_map]; apply List.map_congr_left; intro v _; exact mm_v_cat G v
  exact va_mmax_long hx hb (by rw [hls.1, hml]) hown (hts _ hw1) (hts _ hw2) (hts _ hw3) (hts _ hw4) (by show 1 ≤ d; exact hdd) (by rw [hcat]; show _ + _ ≤ 100 * d; omega) (by show _ ≤ mm_capC - h0.2.1; have := a1.1; omega) (by show _ ≤ mm_capS - h0.2.2; have := a1.1; omega) hd (kk H locs ls hls a1 a2 a3 a4)
theorem mD_mminl (C : mm_D hh d y cc nL ret oz hz V) {idx : Nat} {x z : Int64} (hw1 : Cond.methodLink y.cls idx Lib.MathLoose.min_long.x ∈ lw_good) (hw2 : Cond.static Lib.MathLoose.min_long.x ∈ lw_good) (hw3 : Cond.initialized "java/lang/Math" ∈ lw_good) (hw4 : Cond.code Lib.MathLoose.min_long.x Lib.MathLoose.min_long.code 4 (some .long) ∈ lw_good) (hdd : 1 ≤ d) (hst : (st.map fun v => v.category).sum ≤ 8) (hd : decode cc pc = .ok (.invokestatic idx, 3)) (kk : V (pc + 3) lv (.long (mnL x z) :: st) h) : V pc lv (.long z :: .long x :: st) h := by
  obtain ⟨p, l, e, s, m, args, below, meth, c, h0, G, ⟨hsl, hx, hb, hml, hr, hlk, hown, hnm, htab⟩, hts, hSt, hNc, rfl⟩ := C
  intro H locs ls hls a1 a2 a3 a4
  have hcat : ((st.map (mm_v G)).map fun v => v.category) = st.map fun v => v.category := by rw [List.map_map]; apply List.map_congr_left; intro v _; exact mm_v_cat G v
  exact va_mmin_long hx hb (by rw [hls.1, hml]) hown (hts _ hw1) (hts _ hw2) (hts _ hw3) (hts _ hw4) (by show 1 ≤ d; exact hdd) (by rw [hcat]; show _ + _ ≤ 100 * d; omega) (by show _ ≤ mm_capC - h0.2.1; have := a1.1; omega) (by show _ ≤ mm_capS - h0.2.2; have := a1.1; omega) hd (kk H locs ls hls a1 a2 a3 a4)
theorem mD_fmod (C : mm_D hh d y cc nL ret oz hz V) {idx : Nat} {x z : Int32} (hz0 : ¬ z = 0) (hw1 : Cond.methodLink y.cls idx yJ9_floorMod_7cf53 ∈ lw_good) (hw2 : Cond.static yJ9_floorMod_7cf53 ∈ lw_good) (hw3 : Cond.initialized RJ9 ∈ lw_good) (hw4 : Cond.code yJ9_floorMod_7cf53 cJ9_floorMod_7cf53 3 (some .int) ∈ lw_good) (hdd : 1 ≤ d) (hst : (st.map fun v => v.category).sum ≤ 8) (hd : decode cc pc = .ok (.invokestatic idx, 3)) (kk : V (pc + 3) lv (.int (mm_fm x z) :: st) h) : V pc lv (.int z :: .int x :: st) h := by
  obtain ⟨p, l, e, s, m, args, below, meth, c, h0, G, ⟨hsl, hx, hb, hml, hr, hlk, hown, hnm, htab⟩, hts, hSt, hNc, rfl⟩ := C
  intro H locs ls hls a1 a2 a3 a4
  have hcat : ((st.map (mm_v G)).map fun v => v.category) = st.map fun v => v.category := by rw [List.map_map]; apply List.map_congr_left; intro v _; exact mm_v_cat G v
  have k9 := kk H locs ls hls a1 a2 a3 a4
  intro T hT X
  obtain ⟨v, vm', X', ⟨first, t, hpost⟩, hstep⟩ := X.staticByContractHK hx hown (hts _ hw1) (hts _ hw2) (hts _ hw3) (hts _ hw4) (by decide) (mm_fmMeets l x z hz0) rfl rfl rfl rfl
    (fun args' first o s₂ h => by
      simp only [mm_fmS, Cond.after, Cond.holds_and, Bool.and_eq_true] at h
      cases o with
      | returned r => exact ⟨r, rfl⟩
      | threw y9 => simp [Cond.holds, Cond.value] at h)
    (g := F0 m pc ls (.int z :: .int x :: st.map (mm_v G))) rfl (by show ls.size = c.maxLocals; rw [hls.1, hml]) (argsL := [.int x, .int z]) (rest := st.map (mm_v G))
    (fun sig hs => by
      have h9 : parseMethodDescriptor yJ9_floorMod_7cf53.desc = some { parameters := [.int, .int], returnType := some .int } := by decide +kernel
      rw [h9] at hs; cases hs; rfl) rfl (by rw [hb]; exact hd)
    (fun vm1 hW1 => by
      have hc9 : (Cond.code yJ9_floorMod_7cf53 cJ9_floorMod_7cf53 3 (some .int)).before ([Value.int x, Value.int z] : List Value).toArray (T.setVm vm1) = true := pay_in hts lw_goodIn _ hw4 _ _ hW1
      simp only [mm_fmS, Cond.before_and, Bool.and_eq_true]
      refine ⟨hc9, ?_, ?_, ?_, ?_, ?_⟩ <;> simp [Cond.before, Cond.holds, Cond.value, Term.eval])
    (by show 0 + 1 ≤ d; omega) (by rw [hcat]; show 2 * 0 + _ + (3 + 11) + 0 ≤ 100 * d; omega) (by show _ + 0 ≤ mm_capC - h0.2.1; have := a1.1; omega) (by show _ + 0 ≤ mm_capS - h0.2.2; have := a1.1; omega)
  have hv : v = some (.int (mm_fm x z)) := by
    simp only [mm_fmS, Cond.after, Cond.holds_and, Bool.and_eq_true] at hpost
    have h2 := hpost.2
    cases v with
    | none => simp [Cond.holds, Cond.value, Term.eval] at h2
    | some v9 => cases v9 <;> simp [Cond.holds, Cond.value, Term.eval] at h2; rw [h2]
  subst hv
  obtain ⟨t2, b1, b2⟩ := k9 (T.setVm vm') hT X'
  exact ⟨t2, hstep t2 b1, b2⟩
theorem mD_callVC (C : mm_D hh d y cc nL ret oz hz V) {yk : MethodName} {bytes : ByteArray} {maxL n idx d1 : Nat} {rk : Option FieldType} {As : List Value} {ci : Nat} {E : String} (hM : mm_M yk bytes maxL rk d1 (va_rf r :: As) h (.inl E) h1) (hT : mm_T yk bytes maxL rk n) (ho9 : oK h r ci = true) (hc9 : (ci = 13 ∧ yk.cls = "java/lang/String") ∨ ∃ q : vw_C, mm_cl[ci]? = some q ∧ q.1 = yk.cls) (hw1 : Cond.methodLink y.cls idx yk ∈ lw_good) (hw2 : Cond.instanceMethod yk ∈ lw_good) (hw3 : Cond.selects yk.cls yk yk ∈ lw_good) (hdd : d1 + 1 ≤ d) (hmx : maxL ≤ 80) (hn : As.length = n) (hst : (st.map fun v => v.category).sum ≤ 8) (hstk : stk = As.reverse ++ va_rf r :: st) (hd : decode cc pc = .ok (.invokevirtual idx, 3)) (px : List ExceptionTableEntry) (xx : ExceptionTableEntry) (sx : List ExceptionTableEntry) (hsp : tableOf hh = px ++ xx :: sx) (hps : ∀ z ∈ px, covers z pc = false ∨ (z.catchType ≠ 0 ∧ ∃ nm : String, Cond.classLink y.cls z.catchType nm ∈ lw_good ∧ (E, nm) ∈ mm_ncL)) (hxx : covers xx pc = true) (hx0 : xx.catchType ≠ 0) {nmE : String} (hlk9 : Cond.classLink y.cls xx.catchType nmE ∈ lw_good) (hct : Cond.castable E nmE ∈ mm_nw) {ka kl : Nat} (hka : ka < nL) (hast : (∃ q : Fin 4, (q : Nat) = ka ∧ kl = 1 ∧ decode cc xx.handlerPc = .ok (.astore_n q, 1)) ∨ (kl = 2 ∧ decode cc xx.handlerPc = .ok (.astore ka, 2))) (kk : V (xx.handlerPc + kl) (lv.filter (fun q => !(q.1 == ka) && !(q.1 + 1 == ka && q.2.category == 2))) [] h1) : V pc lv stk h := by
  subst hstk
  obtain ⟨p, l, e, s, m, args, below, meth, c, h0, G, ⟨hsl, hx, hb, hml, hr, hlk, hown, hnm, htab⟩, hts, hSt, hNc, rfl⟩ := C
  intro H locs ls hls a1 a2 a3 a4
  obtain ⟨b, rfl, cellB, hcB, hoB, hclB⟩ := mm_recv hSt.2 a1 ho9 hc9
  have hcat : ((st.map (mm_v G)).map fun v => v.category) = st.map fun v => v.category := by rw [List.map_map]; apply List.map_congr_left; intro v _; exact mm_v_cat G v
  have q1 : (mm_rm d h0).cells = mm_capC - h0.2.1 := rfl
  have q2 : (mm_rm d h0).slots = mm_capS - h0.2.2 := rfl
  have hcode := hts _ hT.1
  have hini := hts _ hT.2.1
  have hK := mm_callback (below := below) (e := e) (p := p) (s := s) (args := args) hM hT hts hsl hdd hmx (l := l) (G := G) (h0 := h0)
  have hlen : ∀ sig, parseMethodDescriptor yk.desc = some sig → (As.map (mm_v G)).length = sig.parameters.length := by
    intro sig hs
    have h2 := hT.2.2.2.2.2
    rw [hs] at h2
    rw [List.length_map, hn]
    exact (Option.some.inj h2).symm
  intro T9 hT9 X
  have hstack : (F0 m pc ls ((As.reverse ++ va_rf (some b) :: st).map (mm_v G))).stack = (As.map (mm_v G)).reverse ++ .ref (mm_ad G b) :: st.map (mm_v G) := by
    show (As.reverse ++ va_rf (some b) :: st).map (mm_v G) = _
    rw [List.map_append, List.map_reverse]; rfl
  rcases vx_callV X hx (C := yk.cls) (bytes := bytes) (maxL := maxL) (ret := rk) hown (hts _ hw1) (hts _ hw2) (hts _ hw3) hcode ⟨hT.2.2.2.1, hT.2.2.2.2.1⟩ hK (by rw [hT9]; exact hcB) hoB hclB rfl (by rw [show (F0 m pc ls ((As.reverse ++ va_rf (some b) :: st).map (mm_v G))).locals = ls from rfl, hls.1, hml]) (argsL := As.map (mm_v G)) (rest := st.map (mm_v G)) hlen hstack (by rw [hcat]; show 2 * 0 + _ ≤ 8; omega) (by rw [hb]; exact hd)
    (fun vm1 hW1 => ⟨by show h.2.1 - h0.2.1 + (mm_capC - h.2.1) ≤ mm_capC - h0.2.1; have := a1.1; omega, by show h.2.2 - h0.2.2 + (mm_capS - h.2.2) ≤ mm_capS - h0.2.2; have := a1.1; omega, rfl, by show mm_R G h T9.heap; rw [hT9]; exact a1, hSt.2.warm (U := T9.setVm vm1) hW1⟩) with ⟨v, vm1, ⟨U', l2, c2, s2⟩, hW1, X', hq, st1⟩ | ⟨q, vm1, ⟨U', l2, c2, s2⟩, hW1, X', hq, st1⟩
  · obtain ⟨g', mk, t, L, e1, e2, ⟨v', ho, -⟩, -⟩ := hq
    cases ho
  · obtain ⟨g', mk, t, L, E9, ce, e1, e2, ⟨ho, hS1, m1, m2⟩, hce, hcv, hcl, b1, hL, b2, b3⟩ := hq
    cases ho
    dsimp only [Pt.U, Pt.locs, Pt.cells, Pt.slots] at X' e1 e2 b1 b2 b3 st1 hcl
    subst b1; subst b2; subst b3
    have hR1 : mm_R G h1 U'.heap := by rw [e1]; exact hS1.1
    have hcl2 : s.vm.findClass E = some ce.cls := vx_cls hW1 hcl
    have kW : W p l e (mm_rm d h0) s m args below meth c U'.heap (locs ++ L) (h1.2.1 - h0.2.1) (h1.2.2 - h0.2.2) (vx_MQ below (mm_Qc G h0 oz hz) (mm_XC G h0 oz hz) args s (hz.2.1 - h0.2.1) (hz.2.2 - h0.2.2) (mm_A G)) (F0 m xx.handlerPc ls [.ref q]) := by
      have kt : ∀ ls' : Array Slot, lv_has ls' nL ((ka, Value.ref q) :: (lv.map fun q => (q.1, mm_v G q.2)).filter (fun q => !(q.1 == ka) && !(q.1 + 1 == ka && q.2.category == 2))) → W p l e (mm_rm d h0) s m args below meth c U'.heap (locs ++ L) (h1.2.1 - h0.2.1) (h1.2.2 - h0.2.2) (vx_MQ below (mm_Qc G h0 oz hz) (mm_XC G h0 oz hz) args s (hz.2.1 - h0.2.1) (hz.2.2 - h0.2.2) (mm_A G)) (F0 m (xx.handlerPc + kl) ls' []) := by
        intro ls' hl'
        refine kk U'.heap (locs ++ L) ls' ?_ hR1 (fun q hq => (List.mem_append.mp hq).elim (a2 q) (hL q)) (Nat.le_trans a3 m1) (Nat.le_trans a4 m2)
        rw [← mm_flt G (fun a b => !(a == ka) && !(a + 1 == ka && b == 2)) lv]
        exact ⟨hl'.1, hl'.2.1, fun z hz => hl'.2.2 z (List.mem_cons_of_mem _ hz)⟩
      rcases hast with ⟨qf, hq1, rfl, hda⟩ | ⟨rfl, hda⟩
      · exact lv_astore_n hx hb hda hq1 hls hka rfl kt
      · exact lv_astore hx hb hda hls hka rfl kt
    have kc := vx_catch (c := c) (H := U'.heap) (ls := ls) (pc := pc) (rest := st.map (mm_v G)) (locs := locs ++ L) hown px xx sx (by rw [htab]; exact hsp) (fun z hz => (hps z hz).elim Or.inl (fun h9 => Or.inr ⟨h9.1, by obtain ⟨nm, h7, h8⟩ := h9.2; exact ⟨nm, hts _ h7, hNc _ h8⟩⟩)) hxx hx0 (hts _ hlk9) (mm_nw_use hSt.2 hct) (by rw [e1]; exact hce) hcv hcl2 kW
    have cE : (h.2.1 - h0.2.1) + (h1.2.1 - h.2.1) = h1.2.1 - h0.2.1 := by omega
    have sE : (h.2.2 - h0.2.2) + (h1.2.2 - h.2.2) = h1.2.2 - h0.2.2 := by omega
    rw [cE, sE] at X'
    obtain ⟨t2, k1, k2⟩ := kc U' rfl X'
    exact ⟨t2, st1.trans k1, k2⟩
theorem mD_callSW (C : mm_D hq d y cc nL ret oz hz V) {yk : MethodName} {bytes : ByteArray} {maxL n idx d1 : Nat} {rk : Option FieldType} {As : List Value} {vk : Option Value} (hM : mm_MW yk bytes maxL rk hh d1 As h (.inr vk) h1) (hT : mm_TW yk bytes maxL rk hh n) (hw1 : Cond.methodLink y.cls idx yk ∈ lw_good) (hw2 : Cond.static yk ∈ lw_good) (hdd : d1 + 1 ≤ d) (hmx : maxL ≤ 80) (hn : As.length = n) (hst : (st.map fun v => v.category).sum ≤ 8) (hstk : stk = As.reverse ++ st) (hd : decode cc pc = .ok (.invokestatic idx, 3)) (kk : V (pc + 3) lv (vk.toList ++ st) h1) : V pc lv stk h := by
  subst hstk
  obtain ⟨p, l, e, s, m, args, below, meth, c, h0, G, ⟨hsl, hx, hb, hml, hr, hlk, hown, hnm, htab⟩, hts, hSt, hNc, rfl⟩ := C
  intro H locs ls hls a1 a2 a3 a4
  have hcat : ((st.map (mm_v G)).map fun v => v.category) = st.map fun v => v.category := by rw [List.map_map]; apply List.map_congr_left; intro v _; exact mm_v_cat G v
  have q1 : (mm_rm d h0).cells = mm_capC - h0.2.1 := rfl
  have q2 : (mm_rm d h0).slots = mm_capS - h0.2.2 := rfl
  have hcode := hts _ hT.1
  have hini := hts _ hT.2.1
  have hK := mD_callback (below := below) (e := e) (p := p) (s := s) (args := args) hM hT hts hsl hdd hmx (l := l) (G := G) (h0 := h0)
  have hlen : ∀ sig, parseMethodDescriptor yk.desc = some sig → (As.map (mm_v G)).length = sig.parameters.length := by
    intro sig hs
    have h2 := hT.2.2.2.2.2
    rw [hs] at h2
    rw [List.length_map, hn]
    exact (Option.some.inj h2).symm
  intro T9 hT9 X
  have hstack : (F0 m pc ls ((As.reverse ++ st).map (mm_v G))).stack = (As.map (mm_v G)).reverse ++ st.map (mm_v G) := by
    show (As.reverse ++ st).map (mm_v G) = _
    rw [List.map_append, List.map_reverse]
  rcases vx_callSX X hx (hh := hh) (bytes := bytes) (maxL := maxL) (ret := rk) hown (hts _ hw1) (hts _ hw2) hini hcode ⟨hT.2.2.2.1, hT.2.2.2.2.1⟩ hK rfl (by rw [show (F0 m pc ls ((As.reverse ++ st).map (mm_v G))).locals = ls from rfl, hls.1, hml]) (argsL := As.map (mm_v G)) (rest := st.map (mm_v G)) hlen hstack (by rw [hcat]; show 2 * 0 + _ ≤ 8; omega) (by rw [hb]; exact hd)
    (fun vm1 hW1 => ⟨by show h.2.1 - h0.2.1 + (mm_capC - h.2.1) ≤ mm_capC - h0.2.1; have := a1.1; omega, by show h.2.2 - h0.2.2 + (mm_capS - h.2.2) ≤ mm_capS - h0.2.2; have := a1.1; omega, ⟨rfl, by show mm_R G h T9.heap; rw [hT9]; exact a1, hSt.2.warm (U := T9.setVm vm1) hW1⟩, hNc.warm (U := T9.setVm vm1) hW1⟩) with ⟨v, vm1, ⟨U', l2, c2, s2⟩, hW1, X', hq, st1⟩ | ⟨q, vm1, ⟨U', l2, c2, s2⟩, hW1, X', hq, st1⟩
  · have kk9 := fun H9 locs9 ls9 => kk H9 locs9 ls9
    simp only [List.map_append, show (vk.toList.map (mm_v G)) = (vk.map (mm_v G)).toList from by cases vk <;> rfl] at kk9
    obtain ⟨g', mk, t, L, e1, e2, ⟨v', ho, hv, hS1, m1, m2⟩, b1, hL, b2, b3⟩ := hq
    cases ho
    cases hv
    dsimp only [Pt.U, Pt.locs, Pt.cells, Pt.slots] at X' e1 e2 b1 b2 b3 st1
    subst b1; subst b2; subst b3
    have hR1 : mm_R G h1 U'.heap := by rw [e1]; exact hS1.1
    have k9 := kk9 U'.heap (locs ++ L) ls hls hR1 (fun q hq => (List.mem_append.mp hq).elim (a2 q) (hL q)) (Nat.le_trans a3 m1) (Nat.le_trans a4 m2)
    rw [show h1.2.1 - h0.2.1 = h.2.1 - h0.2.1 + (h1.2.1 - h.2.1) by omega, show h1.2.2 - h0.2.2 = h.2.2 - h0.2.2 + (h1.2.2 - h.2.2) by omega] at k9
    obtain ⟨t2, k1, k2⟩ := k9 U' rfl X'
    exact ⟨t2, st1 t2 k1, k2⟩
  · exact (mm_noX _ _ _ _ hq).elim
end MDR
