/-! the small machine: cells by numbers, 0 to 127 what is there from the start (texts), from 128 on what is made -/
abbrev mm_Cl : Type := (Nat × Nat × ((Nat → Int32) ⊕ (Nat → Int64) ⊕ (Nat → Option Nat))) ⊕ Option (Nat × List Value)
abbrev MH : Type := (Nat → mm_Cl) × Nat × Nat
def mm_capC : Nat := 601152
def mm_capS : Nat := 7293034
def mm_TS : u_T := fun k => match k with
  | 0 => ("java/lang/String", "value", "[B", true)
  | _ => ("java/lang/String", "coder", "B", true)
abbrev mm_cl : List vw_C := [(RX0, TX0, 3), (RX1, TX1, 6), (RX2, TX2, 6), (RX3, TX3, 3), (RX4, TX4, 8), (RX5, TX5, 2), (RX6, TX6, 8), (RX7, TX7, 15), (RX8, TX8, 7), (RX9, TX9, 6), (RX10, TX10, 3), (RX11, TX11, 16), (RX12, TX12, 48)]
/-- the texts: whose, entry, text, signs -/
def mm_strs : List (String × Nat × String × List Int32) := [("java/util/Arrays", 337, " > ", [32, 62, 32]),
  ("CrossedLines", 418, "out of its bounds", [111, 117, 116, 32, 111, 102, 32, 105, 116, 115, 32, 98, 111, 117, 110, 100, 115]),
  ("CrossedLines$Tokens", 45, ";:+-*()[]=<>", [59, 58, 43, 45, 42, 40, 41, 91, 93, 61, 60, 62]),
  ("CrossedLines$Parser", 147, "lines", [108, 105, 110, 101, 115]),
  ("CrossedLines$Parser", 89, "cord", [99, 111, 114, 100]),
  ("CrossedLines$Parser", 98, "call", [99, 97, 108, 108]),
  ("CrossedLines$Parser", 155, "to", [116, 111]),
  ("CrossedLines$Parser", 157, "at", [97, 116]),
  ("CrossedLines$Parser", 159, "lasts", [108, 97, 115, 116, 115]),
  ("CrossedLines$Parser", 103, "slips", [115, 108, 105, 112, 115]),
  ("CrossedLines$Parser", 180, "not", [110, 111, 116]),
  ("CrossedLines$Parser", 200, "who", [119, 104, 111]),
  ("CrossedLines$Parser", 202, "whom", [119, 104, 111, 109]),
  ("CrossedLines$Parser", 204, "from", [102, 114, 111, 109]),
  ("CrossedLines$Parser", 113, "minute", [109, 105, 110, 117, 116, 101]),
  ("CrossedLines$Parser", 109, "likes", [108, 105, 107, 101, 115]),
  ("CrossedLines$Parser", 206, "liked", [108, 105, 107, 101, 100]),
  ("CrossedLines$Parser", 178, "and", [97, 110, 100]),
  ("CrossedLines$Parser", 170, "or", [111, 114]),
  ("CrossedLines$Parser", 111, "marries", [109, 97, 114, 114, 105, 101, 115]),
  ("CrossedLines", 420, "no such line", [110, 111, 32, 115, 117, 99, 104, 32, 108, 105, 110, 101]),
  ("CrossedLines", 155, "no such cord", [110, 111, 32, 115, 117, 99, 104, 32, 99, 111, 114, 100]),
  ("CrossedLines", 422, "no such call", [110, 111, 32, 115, 117, 99, 104, 32, 99, 97, 108, 108]),
  ("CrossedLines", 426, "no such tray", [110, 111, 32, 115, 117, 99, 104, 32, 116, 114, 97, 121]),
  ("CrossedLines", 432, "the tray is missing", [116, 104, 101, 32, 116, 114, 97, 121, 32, 105, 115, 32, 109, 105, 115, 115, 105, 110, 103]),
  ("CrossedLines", 266, "both are one line", [98, 111, 116, 104, 32, 97, 114, 101, 32, 111, 110, 101, 32, 108, 105, 110, 101]),
  ("CrossedLines", 434, "not two by two", [110, 111, 116, 32, 116, 119, 111, 32, 98, 121, 32, 116, 119, 111]),
  ("CrossedLines", 441, "no line", [110, 111, 32, 108, 105, 110, 101]),
  ("CrossedLines", 323, "a line is told twice", [97, 32, 108, 105, 110, 101, 32, 105, 115, 32, 116, 111, 108, 100, 32, 116, 119, 105, 99, 101]),
  ("CrossedLines", 439, "not three by three", [110, 111, 116, 32, 116, 104, 114, 101, 101, 32, 98, 121, 32, 116, 104, 114, 101, 101]),
  ("CrossedLines", 373, "below 0", [98, 101, 108, 111, 119, 32, 48]),
  ("CrossedLines", 400, "no such place", [110, 111, 32, 115, 117, 99, 104, 32, 112, 108, 97, 99, 101]),
  ("CrossedLines", 424, "no such image", [110, 111, 32, 115, 117, 99, 104, 32, 105, 109, 97, 103, 101]),
  ("CrossedLines", 415, "no such image was made", [110, 111, 32, 115, 117, 99, 104, 32, 105, 109, 97, 103, 101, 32, 119, 97, 115, 32, 109, 97, 100, 101]),
  ("CrossedLinesModel", 259, "lines", [108, 105, 110, 101, 115]),
  ("CrossedLinesModel", 237, "cord", [99, 111, 114, 100]),
  ("CrossedLinesModel", 205, "call", [99, 97, 108, 108]),
  ("CrossedLinesModel", 201, "to", [116, 111]),
  ("CrossedLinesModel", 229, "at", [97, 116]),
  ("CrossedLinesModel", 231, "lasts", [108, 97, 115, 116, 115]),
  ("CrossedLinesModel", 203, "minute", [109, 105, 110, 117, 116, 101]),
  ("CrossedLinesModel", 245, "slips", [115, 108, 105, 112, 115]),
  ("CrossedLinesModel", 195, "who", [119, 104, 111]),
  ("CrossedLinesModel", 197, "whom", [119, 104, 111, 109]),
  ("CrossedLinesModel", 199, "from", [102, 114, 111, 109]),
  ("CrossedLinesModel", 207, "likes", [108, 105, 107, 101, 115]),
  ("CrossedLinesModel", 209, "liked", [108, 105, 107, 101, 100]),
  ("CrossedLinesModel", 251, "marries", [109, 97, 114, 114, 105, 101, 115]),
  ("CrossedLinesModel", 175, "not", [110, 111, 116]),
  ("CrossedLinesModel", 173, "and", [97, 110, 100]),
  ("CrossedLinesModel", 165, "or", [111, 114])]
def mm_byt (i : Nat) : List Int32 := ((mm_strs[i]?).map (fun q => q.2.2.2)).getD []
def mm_ext (a : Nat) : mm_Cl := if a < 51 then .inr (some (13, [.ref (64 + a), .int 0])) else if 64 ≤ a ∧ a < 115 then .inl (2, (mm_byt (a - 64)).length, .inl (fun j => (mm_byt (a - 64)).getD j 0)) else .inr none
/-- machine's side: numbers of kinds and slots, of rows, addresses of what is there from the start, the heap at the start -/
abbrev mm_G : Type := va_G × (Nat → ClassId) × (Nat → Nat) × Heap
abbrev mm_H0 (G : mm_G) : Heap := G.2.2.2
abbrev mm_A (G : mm_G) : Nat → Prop := fun q => G.2.2.2.size ≤ q
def mm_ad (G : mm_G) (a : Nat) : Nat := if a < 128 then G.2.2.1 a else G.2.2.2.size + (a - 128)
def mm_v (G : mm_G) : Value → Value
  | .ref a => .ref (mm_ad G a)
  | v => v
def mm_e (G : mm_G) : mm_Cl → Option va_E
  | .inl (t, n, .inl f) => some (.inl (G.2.1 t, n, .inl f))
  | .inl (t, n, .inr (.inl f)) => some (.inl (G.2.1 t, n, .inr (.inl f)))
  | .inl (t, n, .inr (.inr f)) => some (.inl (G.2.1 t, n, .inr (.inr (.inr (.inr (fun j => (f j).map (mm_ad G)))))))
  | .inr (some (c, fs)) => some (.inr (c, fs.map (mm_v G)))
  | .inr none => none
def mm_tys (G : mm_G) : List (ClassId × FieldType) := [(G.2.1 0, .int), (G.2.1 1, .long), (G.2.1 2, .byte), (G.2.1 3, .boolean), (G.2.1 4, .object RX10), (G.2.1 5, .object RX0), (G.2.1 6, .object RX3)]
/-- the script, where it is told -/
def mm_sc (G : mm_G) (x : mm_Cl) : Prop := ∃ (L : Nat) (xs : Nat → Int32), x = .inl (7, L, .inl xs) ∧ ∃ scr : Cell, G.2.2.2[G.2.2.1 121]? = some scr ∧ scr.vm ≠ .unknown ∧ scr.slots.size = L ∧ ∀ j : Nat, j < L → scr.slots[j]? = some (.int (xs j))
/-- a small heap and the machine's -/
def mm_R (G : mm_G) (h : MH) (H : Heap) : Prop := (128 ≤ h.2.1 ∧ h.2.1 ≤ mm_capC ∧ h.2.2 ≤ mm_capS) ∧ H.size = G.2.2.2.size + (h.2.1 - 128) ∧ (∀ q : Nat, q < G.2.2.2.size → H[q]? = G.2.2.2[q]?) ∧ (∀ a : Nat, a < 128 → h.1 a = mm_ext a ∨ (a = 121 ∧ mm_sc G (h.1 a))) ∧ (∀ a : Nat, 128 ≤ a → a < h.2.1 → ∀ e : va_E, mm_e G (h.1 a) = some e → va_at G.1 mm_cl (mm_ad G a, e) H) ∧ ∀ a : Nat, h.2.1 ≤ a → h.1 a = .inr none
def mm_nwOk : Cond → Bool
  | .castable .. => true
  | .methodLinkNest .. => true
  | .declares _ => true
  | .arrayOver (.object _) => true
  | _ => false
/-- words that are moved by rows of their own -/
def mm_nw : List Cond := lw_tbl.filter mm_nwOk
/-- the tables' side, and what is there from the start -/
def mm_K (G : mm_G) (U : State) : Prop := va_K G.1 mm_cl (mm_tys G) U ∧ (∀ i : Nat, i < 51 → va_O "java/lang/String" (G.2.2.1 i) (mm_A G) U G.2.2.2 ∧ va_OF "java/lang/String" "coder" "B" (.int 0) (G.2.2.1 i) (mm_A G) U G.2.2.2 ∧ va_OF "java/lang/String" "value" "[B" (.ref (G.2.2.1 (64 + i))) (G.2.2.1 i) (mm_A G) U G.2.2.2 ∧ va_T .byte (G.2.2.1 (64 + i)) (mm_byt i).length (fun j => .int ((mm_byt i).getD j 0)) (mm_A G) U G.2.2.2) ∧ (∀ (i : Nat) (q : String × Nat × String × List Int32), mm_strs[i]? = some q → vk_R q.1 q.2.1 q.2.2.1 (G.2.2.1 i) U) ∧ va_Z "java/lang/String" "COMPACT_STRINGS" "Z" (.int 1) (mm_A G) U G.2.2.2 ∧ (va_Z "jdk/internal/util/Preconditions" "SIOOBE_FORMATTER" "Ljava/util/function/BiFunction;" .null (mm_A G) U G.2.2.2 ∨ va_Z "jdk/internal/util/Preconditions" "SIOOBE_FORMATTER" "Ljava/util/function/BiFunction;" (.ref (G.2.2.1 120)) (mm_A G) U G.2.2.2) ∧ vx_Zq Bundle.tN "UNASSIGNED_STACK" Bundle.steD (mm_A G) U G.2.2.2 ∧ vx_Zq Bundle.tN "SUPPRESSED_SENTINEL" Bundle.listD (mm_A G) U G.2.2.2 ∧ (∀ w ∈ mm_nw, va_Nw w U) ∧ ∀ scr : Cell, G.2.2.2[G.2.2.1 121]? = some scr → U.isArrayOf scr .int
def mm_S (G : mm_G) (h : MH) (U : State) : Prop := mm_R G h U.heap ∧ mm_K G U
/-- the good words of the tables -/
def lw_good : List Cond := lw_tbl.filter goodWord
theorem lw_goodIn : GoodIn lw_good lw_good := fun w h => ⟨h, good_of_word (List.mem_filter.mp h).2⟩
def mm_rm (d : Nat) (h : MH) : Room := { frames := d, cells := mm_capC - h.2.1, slots := mm_capS - h.2.2, locals := 100 * d }
def mm_Pc (G : mm_G) (vs : List Value) (h : MH) : Array Value → State → Prop := fun a U => a = (vs.map (mm_v G)).toArray ∧ mm_S G h U
def mm_Qc (G : mm_G) (h : MH) (o : String ⊕ Option Value) (h1 : MH) : Array Value → State → Outcome → State → Prop := fun _ _ oc t => ∃ v : Option Value, o = .inr v ∧ oc = .returned (v.map (mm_v G)) ∧ mm_S G h1 t ∧ h.2.1 ≤ h1.2.1 ∧ h.2.2 ≤ h1.2.2
def mm_XC (G : mm_G) (h : MH) (o : String ⊕ Option Value) (h1 : MH) : String → State → State → Prop := fun E _ t => o = .inl E ∧ mm_S G h1 t ∧ h.2.1 ≤ h1.2.1 ∧ h.2.2 ≤ h1.2.2
/-- CONTRACT: from h with vs the method comes to h1 with o -/
def mm_M (y : MethodName) (cc : ByteArray) (maxL : Nat) (ret : Option FieldType) (d : Nat) (vs : List Value) (h : MH) (o : String ⊕ Option Value) (h1 : MH) : Prop :=
  ∀ (l : Launch) (G : mm_G), l.stackTraces = false → vx_Met l y (.code y cc maxL ret :: lw_good) (mm_rm d h) (mm_Pc G vs h) (mm_Qc G h o h1) (mm_XC G h o h1) (h1.2.1 - h.2.1) (h1.2.2 - h.2.2) (mm_A G)
/-- WHERE A BODY STANDS: V pc locals stack heap says that the method comes from there to hz with oz -/
def mm_C (d : Nat) (y : MethodName) (cc : ByteArray) (nL : Nat) (ret : Option FieldType) (oz : String ⊕ Option Value) (hz : MH) (V : Nat → List (Nat × Value) → List Value → MH → Prop) : Prop :=
  ∃ (p : Program) (l : Launch) (e : Env) (s : State) (m : MethodId) (args : Array Value) (below : List Frame) (meth : Method) (c : Code) (h0 : MH) (G : mm_G),
    (l.stackTraces = false ∧ p.tables.exec = Jvm.exec ∧ c.code = cc ∧ c.maxLocals = nL ∧ meth.sig.returnType = ret ∧ meth.locks = false ∧ s.vm.findClass y.cls = some m.cls ∧ meth.name = y.name ∧ (∀ x ∈ c.exceptionTable.toList, False)) ∧ (∀ w ∈ lw_good, w.before args s = true) ∧ mm_S G h0 s ∧
    V = fun pc lv st h => ∀ (H : Heap) (locs : List Loc) (ls : Array Slot), lv_has ls nL (lv.map fun q => (q.1, mm_v G q.2)) → mm_R G h H → (∀ q ∈ locs, G.2.2.2.size ≤ q.base) → h0.2.1 ≤ h.2.1 → h0.2.2 ≤ h.2.2 →
      W p l e (mm_rm d h0) s m args below meth c H locs (h.2.1 - h0.2.1) (h.2.2 - h0.2.2) (vx_MQ below (mm_Qc G h0 oz hz) (mm_XC G h0 oz hz) args s (hz.2.1 - h0.2.1) (hz.2.2 - h0.2.2) (mm_A G)) (F0 m pc ls (st.map (mm_v G)))
theorem mm_v_rf (G : mm_G) (r : Option Nat) : mm_v G (va_rf r) = va_rf (r.map (mm_ad G)) := by cases r <;> rfl
theorem mm_v_cat (G : mm_G) (v : Value) : (mm_v G v).category = v.category := by cases v <;> rfl
theorem mm_v_def (G : mm_G) (v : Value) (h : ∀ a, v ≠ .ref a) : mm_v G v = v := by cases v <;> first | rfl | exact absurd rfl (h _)
theorem mm_flt (G : mm_G) (P : Nat → Nat → Bool) (lv : List (Nat × Value)) : (lv.map fun q => (q.1, mm_v G q.2)).filter (fun q => P q.1 q.2.category) = (lv.filter (fun q => P q.1 q.2.category)).map fun q => (q.1, mm_v G q.2) := by
  induction lv with
  | nil => rfl
  | cons a t ih =>
    by_cases hp : P a.1 a.2.category = true
    · simp [mm_v_cat, hp] at ih ⊢
      exact ih
    · simp [mm_v_cat, hp] at ih ⊢
      exact ih
theorem mm_lv {G : mm_G} {lv : List (Nat × Value)} {k i : Nat} {v : Value} (h : lv[k]? = some (i, v)) : (lv.map fun q => (q.1, mm_v G q.2))[k]? = some (i, mm_v G v) := by simp [h]
/-- the method's contract out of its body -/
theorem mm_ofV {y : MethodName} {cc : ByteArray} {maxL : Nat} {ret : Option FieldType} {d : Nat} {vs : List Value} {h : MH} {o : String ⊕ Option Value} {h1 : MH} (hy : plainName y.cls = true) (hvs : (lg_sl vs).length ≤ maxL)
    (body : ∀ V, mm_C d y cc maxL ret o h1 V → V 0 (lv_args 0 vs) [] h) : mm_M y cc maxL ret d vs h o h1 := by
  intro l G hl
  refine vx_ofW (cc := cc) (maxL := maxL) (ret := ret) hy rfl ?_
  intro p e s m args below meth c s₁ B hml htab hv
  obtain ⟨rfl, hS⟩ := hv
  have hts : ∀ w ∈ lw_good, w.before (vs.map (mm_v G)).toArray s = true := fun w hw => atoms_spec (ws := .code y cc maxL ret :: lw_good) B.pre w (List.mem_cons_of_mem _ hw)
  have key := body _ ⟨p, l, e, s, m, (vs.map (mm_v G)).toArray, below, meth, c, h, G, ⟨hl, B.exec, B.bytes, hml, B.returns, B.notSynchronized, findClass_of_methodNamed B.named, (name_of_methodNamed B.named B.method).1, htab⟩, hts, hS, rfl⟩
  have hlen : (lg_sl (vs.map (mm_v G))).length = (lg_sl vs).length := by
    clear key hts hS B hvs body
    induction vs with
    | nil => rfl
    | cons a t ih => simp only [lg_sl, List.map_cons, List.flatMap_cons, List.length_append, mm_v_cat] at ih ⊢; split <;> simp [ih]
  have hl2 := lv_entry (vs.map (mm_v G)) (n := maxL) (by rw [hlen]; exact hvs)
  rw [lg_entry_eq]
  generalize (lg_sl (vs.map (mm_v G)) ++ List.replicate (maxL - (lg_sl (vs.map (mm_v G))).length) Slot.unset).toArray = ls at hl2 ⊢
  have hargs : ∀ (k : Nat) (vs : List Value), lv_args k (vs.map (mm_v G)) = (lv_args k vs).map fun q => (q.1, mm_v G q.2) := by
    intro k vs
    induction vs generalizing k with
    | nil => rfl
    | cons a t ih => simp only [lv_args, List.map_cons, mm_v_cat, ih]
  rw [hargs] at hl2
  have := key s.heap [] ls hl2 hS.1 (fun q hq => nomatch hq) (Nat.le_refl _) (Nat.le_refl _)
  rw [Nat.sub_self, Nat.sub_self] at this
  exact this
