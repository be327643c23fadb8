/-! a throw of NoSuchElementException: its constructor hands on by the entry 13, the others of the chain by 7 -/
def ns_rx : ByteArray := ⟨#[0x2a, 0x2b, 0xb7, 0x00, 0x0d, 0xb1]⟩
theorem ns_0 : decode ns_rx 0 = .ok (.aload_n 0, 1) := by decide +kernel
theorem ns_1 : decode ns_rx 1 = .ok (.aload_n 1, 1) := by decide +kernel
theorem ns_2 : decode ns_rx 2 = .ok (.invokespecial 13, 3) := by decide +kernel
theorem ns_5 : decode ns_rx 5 = .ok (.return_, 1) := by decide +kernel
def ns_w (own : String) (ic : Nat) (X Y : String) (r : List String) : List Cond :=
  Bundle.throwableAtoms ++ Bundle.throwableSAtoms ++ (Bundle.passSAtoms X Y 13 ns_rx ++ Bundle.chainSAtoms Y r) ++
  [.methodLink own ic (Bundle.initS X), .instantiable X 6, .castable X X, .selects X Bundle.tFill0 Bundle.tFill0, .selects X Bundle.tFill Bundle.tFill,
   .lays X Bundle.tN "cause" "Ljava/lang/Throwable;", .lays X Bundle.tN "stackTrace" Bundle.steD, .lays X Bundle.tN "suppressedExceptions" Bundle.listD, .lays X Bundle.tN "detailMessage" "Ljava/lang/String;",
   .isRef (.static Bundle.tN "UNASSIGNED_STACK" Bundle.steD), .isRef (.static Bundle.tN "SUPPRESSED_SENTINEL" Bundle.listD),
   .fieldLink Bundle.tN 198 Bundle.tN "backtrace" "Ljava/lang/Object;", .lays Bundle.tN Bundle.tN "backtrace" "Ljava/lang/Object;", .lays X Bundle.tN "backtrace" "Ljava/lang/Object;"]
section NSA
variable {p : Program} {l : Launch} {e : Env} {R : Room} {s : State} {m0 : MethodId} {args : Array Value} {below : List Frame} {meth : Method} {c : Code} {W9 : State} {locs : List Loc} {cells slots : Nat}
set_option maxHeartbeats 4000000 in
theorem ns_ctor (X : Stand p l e R s m0 args below meth c W9 locs cells slots) (hexec : p.tables.exec = Jvm.exec) (htr : e.platform.stackTraces = false) {own cls Y9 : String} {r9 : List String} {ic : Nat}
    (hown : s.vm.findClass own = some m0.cls) (hcls : Bundle.fit cls = true) (hY9 : Bundle.fit Y9 = true) (hr9 : ∀ n ∈ r9, Bundle.fit n = true)
    (h : ∀ a ∈ ns_w own ic cls Y9 r9, a.before args s = true)
    (hlocs : ∀ x ∈ locs, ∀ cell, s.heap[x.base]? = some cell → cell.vm.isStatics = false)
    {a : Addr} {cX : ClassId} {kX : Class} (hfoundX : s.vm.findClass cls = some cX) (hkX : s.vm.classes[cX]? = some kX) (hcell : W9.heap[a]? = some (freshCell cX kX)) (hnew : s.heap.size ≤ a)
    {msg : Value} (hmsg : msg.isRef = true)
    {g : JFrame} (hg : g.method = m0) (hsize : g.locals.size = c.maxLocals) (hlocked : g.locked = none) (hentered : g.entered = []) {rest : List Value} (hstack : g.stack = msg :: .ref a :: .ref a :: rest)
    (hd6 : decode c.code g.pc = .ok (.invokespecial ic, 3)) (hd9 : decode c.code (g.pc + 3) = .ok (.athrow, 1)) (hout : ∀ x ∈ c.exceptionTable.toList, covers x (g.pc + 3) = false)
    (hRframes : r9.length + 4 < R.frames) (hRlocals : 2 * g.monitorRoom + ((Value.ref a :: rest).map fun v => v.category).sum + (13 * (r9.length + 2) + 42) ≤ R.locals) (hlocks : meth.locks = false) :
    ∃ U : State, Steps p.tables e below (W9.setTop g) U ∧ U.status = .running ∧ Ended U below (.threw a) ∧ s.WarmedH U.vm ∧ s.sameButNew ({ U with vm := s.vm } : State) locs cells slots ∧
      ∃ ce, U.heap[a]? = some ce ∧ s.vm.findClass cls = some ce.cls ∧ ce.vm = .none := by
  have p1 : e.platform.frameOwnsMonitors = true := by rw [X.admits.platform]
  have p2 : e.platform.finalization = false := by rw [X.admits.platform]
  have p3 : e.platform.magicAccessors = ({} : Platform).magicAccessors := by rw [X.admits.platform]
  have w9 : ∀ x, x ∈ ns_w own ic cls Y9 r9 → x.holds args s none s [] = true := fun x hx => h x hx
  obtain ⟨T, Z0, L, -, Y⟩ := ThrowableC.of_atoms (args := args) p1 p2 p3 (fun x hx => h x (by simp [ns_w, hx]))
  obtain ⟨Z, M, LZ, LM, hnZ⟩ := Init0T.ofS_atoms (args := args) p3 L Y (fun x hx => h x (by simp [ns_w, hx]))
  obtain ⟨P1, L1, hP1m, hs1⟩ := PassC.ofS_atoms (args := args) (s := s) p3 (X := cls) (Y := Y9) (Bundle.fit_spec hcls).1 (Bundle.fit_spec hY9).2 ns_0 ns_1 ns_2 ns_5 (fun x hx => h x (by simp only [ns_w, List.mem_append]; exact Or.inl (Or.inr (Or.inl hx))))
  obtain ⟨P2, Ps2, hlen2, L2, hL2, hm2, hsup2, hpass2⟩ := Bundle.chainS (args := args) p3 hnZ r9 Y9 hY9 hr9 (fun x hx => h x (by simp only [ns_w, List.mem_append]; exact Or.inl (Or.inr (Or.inr hx))))
  have hfound : s.vm.findClass cls = some P1.m.cls := findClass_of_methodNamed hP1m
  cases Option.some.inj (hfoundX.symm.trans hfound)
  obtain ⟨c1, kX', hc1, hk, hord, -, -, hn6⟩ := Cond.instantiable_spec (w9 (.instantiable cls 6) (by simp [ns_w]))
  cases Option.some.inj (hc1.symm.trans hfound)
  cases Option.some.inj (hkX.symm.trans hk)
  have selOf : ∀ (nmF : MethodName) (F9 : MethodId), s.methodNamed? nmF = some F9 → (nmF.cls ≠ "java/lang/invoke/MethodHandle" ∧ nmF.cls ≠ "java/lang/invoke/VarHandle") → Cond.selects cls nmF nmF ∈ ns_w own ic cls Y9 r9 → selectMethod e.platform s.vm P1.m.cls F9 = .method F9 := by
    intro nmF F9 hF hne hmem
    obtain ⟨c2, r2, m2, q1, q2, q3, q4, -⟩ := Cond.selects_spec (w9 _ hmem)
    cases Option.some.inj (q1.symm.trans hfound)
    cases Option.some.inj (q2.symm.trans (State.methodFound?_of_named hF hne))
    cases Option.some.inj (q3.symm.trans hF)
    rw [Launch.admits_selectMethod X.admits]; exact q4
  have sel0 := selOf Bundle.tFill0 _ Y.fill0 (by decide) (by simp [ns_w])
  have selF := selOf Bundle.tFill _ Y.fill (by decide) (by simp [ns_w])
  obtain ⟨cS0, hS0, hiss⟩ := Y.statics
  obtain ⟨u0, hu0⟩ := Cond.staticRefV Y.unassigned L.unassignedStatic L.statics hS0 hiss (w9 (.isRef (.static Bundle.tN "UNASSIGNED_STACK" Bundle.steD)) (by simp [ns_w]))
  obtain ⟨sen, hsen⟩ := Cond.staticRefV Y.sentinel L.sentinelStatic L.statics hS0 hiss (w9 (.isRef (.static Bundle.tN "SUPPRESSED_SENTINEL" Bundle.listD)) (by simp [ns_w]))
  obtain ⟨ci, i9, fB, b1, b2, b3, b4, -, hnB, htB, hffB⟩ := Cond.ownField (t := .object "java/lang/Object") Y.found L.cls (by decide +kernel) (w9 (.fieldLink Bundle.tN 198 Bundle.tN "backtrace" "Ljava/lang/Object;") (by simp [ns_w])) (w9 (.lays Bundle.tN Bundle.tN "backtrace" "Ljava/lang/Object;") (by simp [ns_w])) e.platform p3
  obtain ⟨cS, hcS, heS, -, hkeep⟩ := X.same.2.2.2.2.2 T.aS cS0 hS0
  have hcS : W9.heap[T.aS]? = some cS := hcS
  have hno : ∀ i, (⟨T.aS, i⟩ : Loc) ∉ locs := fun i hm => by
    have h9 := hlocs _ hm cS0 hS0
    rw [hiss] at h9; cases h9
  have hkS : cS.vm ≠ .unknown := by
    rw [heS]; intro hu
    rw [show cS0.vm = .unknown from hu] at hiss
    cases hiss
  have hne : T.aS ≠ a := Nat.ne_of_lt (Nat.lt_of_lt_of_le (Array.getElem?_eq_some_iff.mp hS0).1 hnew)
  obtain ⟨iM, hffM⟩ := Y.msg
  obtain ⟨tyC, dC, hdC, nC⟩ := Cond.laysAt hfound hk Y.cause (w9 (.lays cls Bundle.tN "cause" "Ljava/lang/Throwable;") (by simp [ns_w]))
  obtain ⟨tyS, dS, hdS, nS⟩ := Cond.laysAt hfound hk Y.stack (w9 (.lays cls Bundle.tN "stackTrace" Bundle.steD) (by simp [ns_w]))
  obtain ⟨tyP, dP, hdP, nP⟩ := Cond.laysAt hfound hk Y.supp (w9 (.lays cls Bundle.tN "suppressedExceptions" Bundle.listD) (by simp [ns_w]))
  obtain ⟨tyM, dM, hdM, nM⟩ := Cond.laysAt hfound hk hffM (w9 (.lays cls Bundle.tN "detailMessage" "Ljava/lang/String;") (by simp [ns_w]))
  obtain ⟨tyB, dB, hdB, nB⟩ := Cond.laysAt hfound hk hffB (w9 (.lays cls Bundle.tN "backtrace" "Ljava/lang/Object;") (by simp [ns_w]))
  have q1 := Cond.laysApart hdB hdC nB nC (by rw [hnB, Y.causeName]; decide)
  have q2 := Cond.laysApart hdB hdS nB nS (by rw [hnB, Y.stackName]; decide)
  have q3 := Cond.laysApart hdB hdP nB nP (by rw [hnB, Y.suppName]; decide)
  have hskip : SkipFacts T e.platform s (fun u => u) u0 ((preparedCellV T.toThrowableT (freshCell P1.m.cls kX) a u0 sen).withEntry W9.cur) :=
    ⟨{ ci198 := ci, i198 := i9, fBack := fB }, ⟨b1, b2, b3, b4⟩, by
      have h9 := fresh_default (c := P1.m.cls) tyB
      rw [htB] at h9
      simpa [preparedCellV, Cell.setSlot, Cell.withEntry, Array.getElem?_setIfInBounds, q1, q2, q3, q1.symm, q2.symm, q3.symm, defaultValue] using h9, fun _ _ => rfl⟩
  obtain ⟨tm, methC, cdC, kC, v1, hnC, -, -, -, -, -, -, -, hW1, st1⟩ := Steps.initColdS (tb := p.tables) (e := e) (below := below) (s := s) (U := W9) X.here hexec X.warmed p3 hown (t := Bundle.initS cls) rfl rfl (Bundle.fit_spec hcls).2
    (w9 (.methodLink own ic (Bundle.initS cls)) (by simp [ns_w])) (h (.instanceMethod (Bundle.initS cls)) (by simp [ns_w, Bundle.passSAtoms])) (bytes := ns_rx) (maxL := 2) (h (.code (Bundle.initS cls) ns_rx 2 none) (by simp [ns_w, Bundle.passSAtoms]))
    (f := g) hg (a := a) (msg := msg) (rest := .ref a :: rest) hstack hd6
  cases Option.some.inj (hnC.symm.trans hP1m)
  have X1 := X.noted hW1
  obtain ⟨v2, X2, st2⟩ := X1.ctorMessageOffV hexec (g := { g with stack := .ref a :: rest }) hg hsize T L Z LZ M LM (P1 :: P2 :: Ps2)
    (fun P hP => by rcases List.mem_cons.mp hP with rfl | hP; exact L1; rcases List.mem_cons.mp hP with rfl | hP; exact L2; exact hL2 P hP) ⟨Option.some.inj (hs1.symm.trans hm2), hsup2, hpass2⟩ (u0 := u0) (sen := sen) (self := a) hmsg (cell := freshCell P1.m.cls kX) (cellS := cS)
    hcell (fun _ => by simp) (by simp) rfl rfl sel0 selF hcS hne hkS (by rw [hkeep _ (hno _)]; exact hu0) (by rw [hkeep _ (hno _)]; exact hsen)
    (Takes.of_laid hk hord tyC (by rw [Y.causeType]; rfl)) (Takes.of_laid hk hord tyS (by rw [Y.stackType]; exact fits_refV_array _ u0)) (Takes.of_laid hk hord tyP (by rw [Y.suppType]; exact fits_refV_object _ sen))
    (Takes.of_laid hk hord tyM (by rw [Y.msgType]; exact fits_refV_object _ ⟨msg, hmsg⟩)) Y.objLocals hskip htr [] hd6
    (by simp only [List.length_cons, hlen2]; omega) (by simp only [List.length_cons, hlen2]; exact hRlocals)
  obtain ⟨hwalk, hrun, hended, hWU, hsame⟩ := X2.athrowLeaves hexec (g := { g with stack := .ref a :: rest, pc := g.pc + 3 }) hg hlocked hentered hout (a := a) (rest := rest) rfl hd9
  have hlt : a < ((W9.setVm v1).setVm v2).heap.size := (Array.getElem?_eq_some_iff.mp hcell).1
  have hU := heapAt_setCell_self (s := (W9.setVm v1).setVm v2) (plainBareV T.toThrowableT (freshCell P1.m.cls kX) a u0 sen msg) hlt
  refine ⟨_, st1 _ (fun acts => ?_), hrun, hended, hWU, hsame.weaken (fun y hy hl9 => ?_) (Nat.le_refl _) (Nat.le_refl _), _, hU, hfound, rfl⟩
  · rw [doInvoke_state]
    exact st2 _ hwalk
  · rcases List.mem_append.mp hy with h1 | h1
    · exact h1
    · exfalso
      have hb : y.base = a := by
        simp only [List.mem_cons, List.not_mem_nil, or_false] at h1
        rcases h1 with rfl | rfl | rfl | rfl | rfl <;> rfl
      rw [hb] at hl9
      exact Nat.not_lt.mpr hnew hl9
end NSA

def ns_at (own : String) (ic : Nat) (X Y : String) (r : List String) : List Cond := (ns_w own ic X Y r).filter vx_no
section NST
variable {p : Program} {l : Launch} {e : Env} {R : Room} {s : State} {m : MethodId} {args : Array Value} {below : List Frame} {meth : Method} {c : Code} {H : Heap} {locs : List Loc} {cells slots : Nat} {Q : State → Prop}
variable {mc ms : Nat} {free : Addr → Prop} {A0 A1 : Nat → Prop} {H0 : Heap} {a : Array Value} {ls : Array Slot} {st0 rest : List Value}
variable {Qc : Array Value → State → Outcome → State → Prop} {XC : String → State → State → Prop}
theorem ns_vx_throwS {cc : ByteArray} {pc : Nat} (hexec : p.tables.exec = Jvm.exec) (hb : c.code = cc) (hl : l.stackTraces = false) {own cls text : String} {Y9 : String} {r9 : List String} {ik is ic mc ms sa : Nat} {A : Nat → Prop}
    (hown : s.vm.findClass own = some m.cls) (hcls : Bundle.fit cls = true) (hY9 : Bundle.fit Y9 = true) (hr9 : ∀ n ∈ r9, Bundle.fit n = true)
    (hk : (Cond.classLink own ik cls).before args s = true) (hini : (Cond.initialized cls).before args s = true) (hstr : vk_R own is text sa s) (hat : ∀ w ∈ ns_at own ic cls Y9 r9, w.before args s = true)
    (hgood : ∀ w ∈ Cond.classLink own ik cls :: Cond.initialized cls :: ns_at own ic cls Y9 r9, vx_ot w = true)
    (hU : vx_Zq Bundle.tN "UNASSIGNED_STACK" Bundle.steD A s s.heap) (hN : vx_Zq Bundle.tN "SUPPRESSED_SENTINEL" Bundle.listD A s s.heap) (hS : va_S A s.heap H locs) (hsize : ls.size = c.maxLocals)
    (d0 : decode cc pc = .ok (.new ik, 3)) (d3 : decode cc (pc + 3) = .ok (.dup, 1)) (d4 : decode cc (pc + 4) = .ok (.ldc is, 2)) (d6 : decode cc (pc + 6) = .ok (.invokespecial ic, 3)) (d9 : decode cc (pc + 9) = .ok (.athrow, 1))
    (hout : ∀ x ∈ c.exceptionTable.toList, covers x (pc + 9) = false)
    (hRframes : r9.length + 4 < R.frames) (hRlocals : (rest.map fun v => v.category).sum + (13 * (r9.length + 2) + 43) ≤ R.locals) (hRcells : cells + 1 ≤ R.cells) (hRslots : slots + 6 ≤ R.slots) (hlocks : meth.locks = false)
    (hx : ∀ t : State, s.WarmedH t.vm → t.heap.size = H.size + 1 → (∀ q : Nat, q < H.size → t.heap[q]? = H[q]?) → XC cls s t)
    (hf : ∀ z ∈ locs, free z.base) (hc : cells + 1 ≤ mc) (hs : slots + 6 ≤ ms) :
    W p l e R s m args below meth c H locs cells slots (vx_MQ below Qc XC args s mc ms free) (F0 m pc ls rest) := by
  intro T hT X
  have htr : e.platform.stackTraces = false := (show e.platform.stackTraces = l.stackTraces by rw [X.admits.platform]).trans hl
  have Y := vx_rebase X (R' := { frames := R.frames, locals := R.locals, cells := 1, slots := 6 }) (Nat.le_refl _) (Nat.le_refl _) hRcells hRslots
  obtain ⟨s', hA⟩ : ∃ z, z = (T.setVm s.vm).setFrames (.invoking m args :: below) := ⟨_, rfl⟩
  rw [← hA] at Y
  have hvm : s'.vm = s.vm := by rw [hA]; rfl
  have hhp : s'.heap = H := by rw [hA]; exact hT
  have hW0 : s.WarmedH s'.vm := by rw [hvm]; exact State.WarmedH.refl s
  have hat' : ∀ w ∈ ns_at own ic cls Y9 r9, w.before args s' = true := fun w hw => vx_ot_at hW0 hvm.symm (hgood w (List.mem_cons_of_mem _ (List.mem_cons_of_mem _ hw))) (hat w hw)
  have hk' : (Cond.classLink own ik cls).before args s' = true := vx_ot_at hW0 hvm.symm (hgood _ List.mem_cons_self) hk
  have hini' : (Cond.initialized cls).before args s' = true := vx_ot_at hW0 hvm.symm (hgood _ (List.mem_cons_of_mem _ List.mem_cons_self)) hini
  have hU' : vx_Zq Bundle.tN "UNASSIGNED_STACK" Bundle.steD A s' s'.heap := by rw [hhp]; exact vx_Zq.moved hW0.alike (hU.kept hS.2.1)
  have hN' : vx_Zq Bundle.tN "SUPPRESSED_SENTINEL" Bundle.listD A s' s'.heap := by rw [hhp]; exact vx_Zq.moved hW0.alike (hN.kept hS.2.1)
  have h : ∀ w ∈ ns_w own ic cls Y9 r9, w.before args s' = true := vx_own hat' (vx_isRefq hU'.1) (vx_isRefq hN'.1) hU'.2.word hN'.2.word
  have hown' : s'.vm.findClass own = some m.cls := by rw [hvm]; exact hown
  have hins : (Cond.instantiable cls 6).before args s' = true := h _ (by simp [ns_w])
  obtain ⟨vm₁, cX, kX, hfX, hkX, -, -, X₁, st1⟩ := Y.newCold hexec (own := own) (C := cls) (index := ik) (n := 6) hown' hk' hins hini'
    (g := F0 m pc ls rest) rfl (by rw [hb]; exact d0) (Nat.le_refl _) (Nat.le_refl _)
  generalize hT1 : (T.setVm vm₁).pushCell { cls := cX, slots := kX.instanceTypes.map defaultValue, vm := .none } = T1 at X₁ st1
  have hcat : (Value.ref T.heap.size).category = 1 := rfl
  have hcellA : T1.heap[T.heap.size]? = some (freshCell cX kX) := by rw [← hT1]; exact State.heap_pushCell_size _ _
  have d3' : decode c.code (pc + 3) = .ok (.dup, 1) := by rw [hb]; exact d3
  have d4' : decode c.code (pc + 4) = .ok (.ldc is, 2) := by rw [hb]; exact d4
  have hstr' : vk_R own is text sa s' := vk_R.warm hW0 hstr
  obtain ⟨U, hsteps, hrun, hend, hW, hsame, ce, hce, hO⟩ := ns_ctor X₁ hexec htr (own := own) (cls := cls) (Y9 := Y9) (r9 := r9) (ic := ic) hown' hcls hY9 hr9 h (fun x hx => nomatch hx) hfX hkX hcellA (by rw [hhp, hT]; exact Nat.le_refl _) (msg := .ref sa) rfl
    (g := { method := m, pc := pc + 6, locals := ls, stack := .ref sa :: .ref T.heap.size :: .ref T.heap.size :: rest, locked := none }) rfl hsize rfl rfl (rest := rest) rfl
    (by rw [hb]; exact d6) (by rw [hb]; exact d9) hout hRframes (by simp only [List.map_cons, List.sum_cons, hcat]; omega) hlocks
  obtain ⟨f1, f2⟩ := vx_frame hsame
  rw [hhp] at f1 f2
  have f3 : U.heap.size ≤ H.size + 1 := by have f9 := hsame.2.2.1; rw [hhp] at f9; exact f9
  have f4 : H.size < U.heap.size := by have f9 := (Array.getElem?_eq_some_iff.mp hce).1; rw [hT] at f9; exact f9
  have hWs : s.WarmedH U.vm := State.WarmedH.trans hW0 hW
  have hcl : s.vm.findClass cls = some ce.cls := by
    have h9 := hO.1
    rw [hvm] at h9
    exact h9
  have hall : s.sameButNew ({ U with vm := s.vm } : State) locs mc ms := by
    subst hA
    obtain ⟨e1, e2⟩ := hsame
    rw [State.setFrames_setFrames] at e1
    have h2 : (T.setVm s.vm).sameButNew ({ U with vm := s.vm } : State) [] (0 + 1) (0 + 6) := ⟨e1, e2⟩
    have h3 := X.same.trans h2
    rw [List.append_nil] at h3
    exact h3.mono hc hs
  refine ⟨U, ?_, .threw T.heap.size, hrun, hend, Or.inr ⟨T.heap.size, rfl, cls, ce, locs, hx U hWs (by omega) (fun q hq => f2 q hq (fun z hz => nomatch hz)), hce, hO.2, hcl, hWs, hall, hf⟩⟩
  refine st1 _ ?_
  show Steps p.tables e below (T1.setTop { method := m, pc := pc + 3, locals := ls, stack := .ref T.heap.size :: rest, locked := none }) _
  jvm_step X₁.here [X₁.here.top, hexec, d3', Value.category]
  exact X₁.ldcString hexec (own := own) (text := text) (index := is) (a := sa) hown' hstr'.1 hstr'.2
    (g := { method := m, pc := pc + 4, locals := ls, stack := .ref T.heap.size :: .ref T.heap.size :: rest, locked := none }) rfl d4' _ hsteps
theorem ns_vx_throwSW {cc : ByteArray} {pc : Nat} (hexec : p.tables.exec = Jvm.exec) (hb : c.code = cc) (hl : l.stackTraces = false) {own cls text : String} {Y9 : String} {r9 : List String} {ik is ic mc ms sa : Nat} {A : Nat → Prop}
    (hown : s.vm.findClass own = some m.cls) (hcls : Bundle.fit cls = true) (hY9 : Bundle.fit Y9 = true) (hr9 : ∀ n ∈ r9, Bundle.fit n = true)
    (hk : (Cond.classLink own ik cls).before args s = true) (hini : (Cond.initialized cls).before args s = true) (hstr : vk_R own is text sa s) (hat : ∀ w ∈ ns_at own ic cls Y9 r9, w.before args s = true)
    (hgood : ∀ w ∈ Cond.classLink own ik cls :: Cond.initialized cls :: ns_at own ic cls Y9 r9, vx_ot w = true)
    (hU : vx_Zq Bundle.tN "UNASSIGNED_STACK" Bundle.steD A s s.heap) (hN : vx_Zq Bundle.tN "SUPPRESSED_SENTINEL" Bundle.listD A s s.heap) (hS : va_S A s.heap H locs) (hsize : ls.size = c.maxLocals)
    (d0 : decode cc pc = .ok (.new ik, 3)) (d3 : decode cc (pc + 3) = .ok (.dup, 1)) (d4 : decode cc (pc + 4) = .ok (.ldc_w is, 3)) (d7 : decode cc (pc + 7) = .ok (.invokespecial ic, 3)) (d10 : decode cc (pc + 10) = .ok (.athrow, 1))
    (hout : ∀ x ∈ c.exceptionTable.toList, covers x (pc + 10) = false)
    (hRframes : r9.length + 4 < R.frames) (hRlocals : (rest.map fun v => v.category).sum + (13 * (r9.length + 2) + 43) ≤ R.locals) (hRcells : cells + 1 ≤ R.cells) (hRslots : slots + 6 ≤ R.slots) (hlocks : meth.locks = false)
    (hx : ∀ t : State, s.WarmedH t.vm → t.heap.size = H.size + 1 → (∀ q : Nat, q < H.size → t.heap[q]? = H[q]?) → XC cls s t)
    (hf : ∀ z ∈ locs, free z.base) (hc : cells + 1 ≤ mc) (hs : slots + 6 ≤ ms) :
    W p l e R s m args below meth c H locs cells slots (vx_MQ below Qc XC args s mc ms free) (F0 m pc ls rest) := by
  intro T hT X
  have htr : e.platform.stackTraces = false := (show e.platform.stackTraces = l.stackTraces by rw [X.admits.platform]).trans hl
  have Y := vx_rebase X (R' := { frames := R.frames, locals := R.locals, cells := 1, slots := 6 }) (Nat.le_refl _) (Nat.le_refl _) hRcells hRslots
  obtain ⟨s', hA⟩ : ∃ z, z = (T.setVm s.vm).setFrames (.invoking m args :: below) := ⟨_, rfl⟩
  rw [← hA] at Y
  have hvm : s'.vm = s.vm := by rw [hA]; rfl
  have hhp : s'.heap = H := by rw [hA]; exact hT
  have hW0 : s.WarmedH s'.vm := by rw [hvm]; exact State.WarmedH.refl s
  have hat' : ∀ w ∈ ns_at own ic cls Y9 r9, w.before args s' = true := fun w hw => vx_ot_at hW0 hvm.symm (hgood w (List.mem_cons_of_mem _ (List.mem_cons_of_mem _ hw))) (hat w hw)
  have hk' : (Cond.classLink own ik cls).before args s' = true := vx_ot_at hW0 hvm.symm (hgood _ List.mem_cons_self) hk
  have hini' : (Cond.initialized cls).before args s' = true := vx_ot_at hW0 hvm.symm (hgood _ (List.mem_cons_of_mem _ List.mem_cons_self)) hini
  have hU' : vx_Zq Bundle.tN "UNASSIGNED_STACK" Bundle.steD A s' s'.heap := by rw [hhp]; exact vx_Zq.moved hW0.alike (hU.kept hS.2.1)
  have hN' : vx_Zq Bundle.tN "SUPPRESSED_SENTINEL" Bundle.listD A s' s'.heap := by rw [hhp]; exact vx_Zq.moved hW0.alike (hN.kept hS.2.1)
  have h : ∀ w ∈ ns_w own ic cls Y9 r9, w.before args s' = true := vx_own hat' (vx_isRefq hU'.1) (vx_isRefq hN'.1) hU'.2.word hN'.2.word
  have hown' : s'.vm.findClass own = some m.cls := by rw [hvm]; exact hown
  have hins : (Cond.instantiable cls 6).before args s' = true := h _ (by simp [ns_w])
  obtain ⟨vm₁, cX, kX, hfX, hkX, -, -, X₁, st1⟩ := Y.newCold hexec (own := own) (C := cls) (index := ik) (n := 6) hown' hk' hins hini'
    (g := F0 m pc ls rest) rfl (by rw [hb]; exact d0) (Nat.le_refl _) (Nat.le_refl _)
  generalize hT1 : (T.setVm vm₁).pushCell { cls := cX, slots := kX.instanceTypes.map defaultValue, vm := .none } = T1 at X₁ st1
  have hcat : (Value.ref T.heap.size).category = 1 := rfl
  have hcellA : T1.heap[T.heap.size]? = some (freshCell cX kX) := by rw [← hT1]; exact State.heap_pushCell_size _ _
  have d3' : decode c.code (pc + 3) = .ok (.dup, 1) := by rw [hb]; exact d3
  have d4' : decode c.code (pc + 4) = .ok (.ldc_w is, 3) := by rw [hb]; exact d4
  have hstr' : vk_R own is text sa s' := vk_R.warm hW0 hstr
  obtain ⟨U, hsteps, hrun, hend, hW, hsame, ce, hce, hO⟩ := ns_ctor X₁ hexec htr (own := own) (cls := cls) (Y9 := Y9) (r9 := r9) (ic := ic) hown' hcls hY9 hr9 h (fun x hx => nomatch hx) hfX hkX hcellA (by rw [hhp, hT]; exact Nat.le_refl _) (msg := .ref sa) rfl
    (g := { method := m, pc := pc + 7, locals := ls, stack := .ref sa :: .ref T.heap.size :: .ref T.heap.size :: rest, locked := none }) rfl hsize rfl rfl (rest := rest) rfl
    (by rw [hb]; exact d7) (by rw [hb]; exact d10) hout hRframes (by simp only [List.map_cons, List.sum_cons, hcat]; omega) hlocks
  obtain ⟨f1, f2⟩ := vx_frame hsame
  rw [hhp] at f1 f2
  have f3 : U.heap.size ≤ H.size + 1 := by have f9 := hsame.2.2.1; rw [hhp] at f9; exact f9
  have f4 : H.size < U.heap.size := by have f9 := (Array.getElem?_eq_some_iff.mp hce).1; rw [hT] at f9; exact f9
  have hWs : s.WarmedH U.vm := State.WarmedH.trans hW0 hW
  have hcl : s.vm.findClass cls = some ce.cls := by
    have h9 := hO.1
    rw [hvm] at h9
    exact h9
  have hall : s.sameButNew ({ U with vm := s.vm } : State) locs mc ms := by
    subst hA
    obtain ⟨e1, e2⟩ := hsame
    rw [State.setFrames_setFrames] at e1
    have h2 : (T.setVm s.vm).sameButNew ({ U with vm := s.vm } : State) [] (0 + 1) (0 + 6) := ⟨e1, e2⟩
    have h3 := X.same.trans h2
    rw [List.append_nil] at h3
    exact h3.mono hc hs
  refine ⟨U, ?_, .threw T.heap.size, hrun, hend, Or.inr ⟨T.heap.size, rfl, cls, ce, locs, hx U hWs (by omega) (fun q hq => f2 q hq (fun z hz => nomatch hz)), hce, hO.2, hcl, hWs, hall, hf⟩⟩
  refine st1 _ ?_
  show Steps p.tables e below (T1.setTop { method := m, pc := pc + 3, locals := ls, stack := .ref T.heap.size :: rest, locked := none }) _
  jvm_step X₁.here [X₁.here.top, hexec, d3', Value.category]
  exact X₁.ldcStringW hexec (own := own) (text := text) (index := is) (a := sa) hown' hstr'.1 hstr'.2
    (g := { method := m, pc := pc + 4, locals := ls, stack := .ref T.heap.size :: .ref T.heap.size :: rest, locked := none }) rfl d4' _ hsteps
end NST
section MMN
variable {d : Nat} {y : MethodName} {cc : ByteArray} {nL : Nat} {ret : Option FieldType} {oz : String ⊕ Option Value} {hz : MH} {V : Nat → List (Nat × Value) → List Value → MH → Prop} {pc : Nat} {lv lv' : List (Nat × Value)} {st stk : List Value} {h h1 : MH} {r : Option Nat}
def mm_Twn (own E : String) (ik ic : Nat) : Prop := (Bundle.fit E = true ∧ Cond.classLink own ik E ∈ lw_good ∧ Cond.initialized E ∈ lw_good) ∧ (∀ w ∈ (ns_at own ic E "java/lang/RuntimeException" ["java/lang/Exception"]).filter goodWord, w ∈ lw_good) ∧ (∀ w ∈ (ns_at own ic E "java/lang/RuntimeException" ["java/lang/Exception"]).filter (fun w => !goodWord w), w ∈ mm_nw) ∧ ∀ w ∈ Cond.classLink own ik E :: Cond.initialized E :: ns_at own ic E "java/lang/RuntimeException" ["java/lang/Exception"], vx_ot w = true
theorem mm_hatn {own E : String} {ik ic : Nat} {G : mm_G} {s : State} {args : Array Value} (hT : mm_Twn own E ik ic) (hts : ∀ w ∈ lw_good, w.before args s = true) (hK : mm_K G s) : ∀ w ∈ ns_at own ic E "java/lang/RuntimeException" ["java/lang/Exception"], w.before args s = true :=
  vx_hat (B := mm_nw) (fun w hw => hts w (hT.2.1 w hw)) (fun w hw => hT.2.2.1 w hw) (fun w hw => mm_nw_use hK hw)
theorem mm_throwN (C : mm_C d y cc nL ret oz hz V) {E tx : String} {bs : List Int32} {ik is ic i : Nat} (hT : mm_Twn y.cls E ik ic) (hi : mm_strs[i]? = some (y.cls, is, tx, bs)) (d0 : decode cc pc = .ok (.new ik, 3)) (d3 : decode cc (pc + 3) = .ok (.dup, 1)) (d4 : decode cc (pc + 4) = .ok (.ldc is, 2)) (d6 : decode cc (pc + 6) = .ok (.invokespecial ic, 3)) (d9 : decode cc (pc + 9) = .ok (.athrow, 1)) (hdp : 6 ≤ d) (hst : (st.map fun v => v.category).sum ≤ 8) (ho : oz = .inl E) (ht : tH h = some hz) : V pc lv st h := by
  obtain ⟨p, l, e, s, m, args, below, meth, c, h0, G, ⟨hsl, hx, hb, hml, hr, hlk, hown, hnm, htab⟩, hts, hSt, rfl⟩ := C
  intro H locs ls hls a1 a2 a3 a4
  obtain ⟨c1, c2, rfl⟩ := tH_some ht
  subst ho
  have q1 : (mm_rm d h0).cells = mm_capC - h0.2.1 := rfl
  have q2 : (mm_rm d h0).slots = mm_capS - h0.2.2 := rfl
  have hcat : ((st.map (mm_v G)).map fun v => v.category) = st.map fun v => v.category := by rw [List.map_map]; apply List.map_congr_left; intro v _; exact mm_v_cat G v
  refine ns_vx_throwS hx hb hsl (Y9 := "java/lang/RuntimeException") (r9 := ["java/lang/Exception"]) (sa := G.2.2.1 i) (text := tx) hown hT.1.1 (by decide +kernel) (by decide +kernel) (hts _ hT.1.2.1) (hts _ hT.1.2.2) (hSt.2.2.2.1 i _ hi) (mm_hatn hT hts hSt.2) hT.2.2.2 (mm_zq hSt.1 hSt.2.2.2.2.2.2.1) (mm_zq hSt.1 hSt.2.2.2.2.2.2.2.1) (mm_vaS hSt.1 a1 a3 a2) (by rw [hls.1, hml]) d0 d3 d4 d6 d9 (fun x hx => (htab x hx).elim) (by show 5 < d; omega) (by rw [hcat]; show _ + 82 ≤ 100 * d; omega) (by rw [q1]; omega) (by rw [q2]; omega) hlk (fun t hW hsz hsm => ?_) a2 (by show _ ≤ h.2.1 + 1 - h0.2.1; omega) (by show _ ≤ h.2.2 + 6 - h0.2.2; omega)
  exact ⟨rfl, mm_S.of hSt.2 (a1.thrown ⟨c1, c2⟩ hsz hsm) rfl hW, by show _ ≤ h.2.1 + 1; omega, by show _ ≤ h.2.2 + 6; omega⟩
theorem mm_throwNW (C : mm_C d y cc nL ret oz hz V) {E tx : String} {bs : List Int32} {ik is ic i : Nat} (hT : mm_Twn y.cls E ik ic) (hi : mm_strs[i]? = some (y.cls, is, tx, bs)) (d0 : decode cc pc = .ok (.new ik, 3)) (d3 : decode cc (pc + 3) = .ok (.dup, 1)) (d4 : decode cc (pc + 4) = .ok (.ldc_w is, 3)) (d6 : decode cc (pc + 7) = .ok (.invokespecial ic, 3)) (d9 : decode cc (pc + 10) = .ok (.athrow, 1)) (hdp : 6 ≤ d) (hst : (st.map fun v => v.category).sum ≤ 8) (ho : oz = .inl E) (ht : tH h = some hz) : V pc lv st h := by
  obtain ⟨p, l, e, s, m, args, below, meth, c, h0, G, ⟨hsl, hx, hb, hml, hr, hlk, hown, hnm, htab⟩, hts, hSt, rfl⟩ := C
  intro H locs ls hls a1 a2 a3 a4
  obtain ⟨c1, c2, rfl⟩ := tH_some ht
  subst ho
  have q1 : (mm_rm d h0).cells = mm_capC - h0.2.1 := rfl
  have q2 : (mm_rm d h0).slots = mm_capS - h0.2.2 := rfl
  have hcat : ((st.map (mm_v G)).map fun v => v.category) = st.map fun v => v.category := by rw [List.map_map]; apply List.map_congr_left; intro v _; exact mm_v_cat G v
  refine ns_vx_throwSW hx hb hsl (Y9 := "java/lang/RuntimeException") (r9 := ["java/lang/Exception"]) (sa := G.2.2.1 i) (text := tx) hown hT.1.1 (by decide +kernel) (by decide +kernel) (hts _ hT.1.2.1) (hts _ hT.1.2.2) (hSt.2.2.2.1 i _ hi) (mm_hatn hT hts hSt.2) hT.2.2.2 (mm_zq hSt.1 hSt.2.2.2.2.2.2.1) (mm_zq hSt.1 hSt.2.2.2.2.2.2.2.1) (mm_vaS hSt.1 a1 a3 a2) (by rw [hls.1, hml]) d0 d3 d4 d6 d9 (fun x hx => (htab x hx).elim) (by show 5 < d; omega) (by rw [hcat]; show _ + 82 ≤ 100 * d; omega) (by rw [q1]; omega) (by rw [q2]; omega) hlk (fun t hW hsz hsm => ?_) a2 (by show _ ≤ h.2.1 + 1 - h0.2.1; omega) (by show _ ≤ h.2.2 + 6 - h0.2.2; omega)
  exact ⟨rfl, mm_S.of hSt.2 (a1.thrown ⟨c1, c2⟩ hsz hsm) rfl hW, by show _ ≤ h.2.1 + 1; omega, by show _ ≤ h.2.2 + 6; omega⟩
end MMN
