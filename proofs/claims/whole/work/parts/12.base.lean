theorem mm_crf {r : Option Nat} : (va_rf r).category = 1 := by cases r <;> rfl
theorem mm_cti {x : Int32} : (Value.int x).category = 1 := rfl
theorem mm_ctl {x : Int64} : (Value.long x).category = 2 := rfl
def mm_N : Nat := 1000000
def mm_b2 {α γ : Type} (o : Option (α × MH)) (f : α → MH → Option γ) : Option γ := match o with
  | none => none
  | some (a, b) => f a b
theorem mm_b2s {α γ : Type} {o : Option (α × MH)} {f : α → MH → Option γ} {r : γ} (h : mm_b2 o f = some r) : ∃ a b, o = some (a, b) ∧ f a b = some r := by
  unfold mm_b2 at h
  split at h
  · cases h
  · exact ⟨_, _, rfl, h⟩
def mm_b3 {α β : Type} (o : Option ((String ⊕ α) × MH)) (f : α → MH → Option ((String ⊕ β) × MH)) : Option ((String ⊕ β) × MH) := match o with
  | none => none
  | some (.inl E, h) => some (.inl E, h)
  | some (.inr a, h) => f a h
theorem mm_b3s {α β : Type} {o : Option ((String ⊕ α) × MH)} {f : α → MH → Option ((String ⊕ β) × MH)} {r : String ⊕ β} {hz : MH} (h : mm_b3 o f = some (r, hz)) : (∃ E, o = some (.inl E, hz) ∧ r = .inl E) ∨ ∃ a h, o = some (.inr a, h) ∧ f a h = some (r, hz) := by
  unfold mm_b3 at h
  split at h
  · cases h
  · cases h; exact Or.inl ⟨_, rfl, rfl⟩
  · exact Or.inr ⟨_, _, rfl, h⟩
def mm_oi : String ⊕ Int32 → String ⊕ Option Value
  | .inl E => .inl E
  | .inr x => .inr (some (.int x))
def mm_oj : String ⊕ Int64 → String ⊕ Option Value
  | .inl E => .inl E
  | .inr x => .inr (some (.long x))
def mm_oa : String ⊕ Option Nat → String ⊕ Option Value
  | .inl E => .inl E
  | .inr x => .inr (some (va_rf x))
def mm_ov : String ⊕ Unit → String ⊕ Option Value
  | .inl E => .inl E
  | .inr _ => .inr none
def rZ (x : Int32) (h : MH) : Option (Int32 × MH) := if x = 0 ∨ x = 1 then some (x, h) else none
def rZX (x : Int32) (h : MH) : Option ((String ⊕ Int32) × MH) := if x = 0 ∨ x = 1 then some (.inr x, h) else none
def rB (x : Int32) (h : MH) : Option (Int32 × MH) := if x.toInt8.toInt32 = x then some (x, h) else none
def rC (x : Int32) (h : MH) : Option (Int32 × MH) := if (x.toUInt32 % 65536).toInt32 = x then some (x, h) else none
theorem rZ_some {x : Int32} {h : MH} {q : Int32 × MH} (e : rZ x h = some q) : (x = 0 ∨ x = 1) ∧ some (x, h) = some q := by
  unfold rZ at e
  split at e
  · rename_i hc; exact ⟨hc, e⟩
  · cases e
theorem rZX_some {x : Int32} {h : MH} {q : (String ⊕ Int32) × MH} (e : rZX x h = some q) : (x = 0 ∨ x = 1) ∧ (some (.inr x, h) : Option ((String ⊕ Int32) × MH)) = some q := by
  unfold rZX at e
  split at e
  · rename_i hc; exact ⟨hc, e⟩
  · cases e
theorem rB_some {x : Int32} {h : MH} {q : Int32 × MH} (e : rB x h = some q) : x.toInt8.toInt32 = x ∧ some (x, h) = some q := by
  unfold rB at e
  split at e
  · rename_i hc; exact ⟨hc, e⟩
  · cases e
theorem rC_some {x : Int32} {h : MH} {q : Int32 × MH} (e : rC x h = some q) : (x.toUInt32 % 65536).toInt32 = x ∧ some (x, h) = some q := by
  unfold rC at e
  split at e
  · rename_i hc; exact ⟨hc, e⟩
  · cases e
theorem mm_nrZ {x : Int32} (h : x = 0 ∨ x = 1) : narrow .boolean (.int x) = .int x := by rcases h with rfl | rfl <;> rfl
theorem mm_nrB {x : Int32} (h : x.toInt8.toInt32 = x) : narrow .byte (.int x) = .int x := by rw [← h]; exact pk_nb x
theorem mm_nrC {x : Int32} (h : (x.toUInt32 % 65536).toInt32 = x) : narrow .char (.int x) = .int x := by rw [← h]; exact pk_nc x
theorem mm_wd {w : Cond} (i : Nat) (h : lw_tbl[i]? = some w) (hg : goodWord w = true) : w ∈ lw_good := List.mem_filter.mpr ⟨List.mem_of_getElem? h, hg⟩
theorem mm_wn {w : Cond} (i : Nat) (h : lw_tbl[i]? = some w) (hg : mm_nwOk w = true) : w ∈ mm_nw := List.mem_filter.mpr ⟨List.mem_of_getElem? h, hg⟩
theorem mm_ws {ws : List Cond} (ps : List Nat) (hp : ws = ps.filterMap (fun i => lw_tbl[i]?)) (h : ws.all goodWord = true) : ∀ w ∈ ws, w ∈ lw_good := fun w hw => List.mem_filter.mpr ⟨(goodIn_r ws ps hp h w hw).1, List.all_eq_true.mp h w hw⟩
theorem mm_fg {L : List Cond} (h : ∀ w ∈ L.filter goodWord, w ∈ lw_tbl) : ∀ w ∈ L.filter goodWord, w ∈ lw_good := fun w hw => List.mem_filter.mpr ⟨h w hw, (List.mem_filter.mp hw).2⟩
theorem mm_fn {L : List Cond} (h : ∀ w ∈ L.filter (fun w => !goodWord w), w ∈ lw_tbl ∧ mm_nwOk w = true) : ∀ w ∈ L.filter (fun w => !goodWord w), w ∈ mm_nw := fun w hw => List.mem_filter.mpr (h w hw)
theorem mm_dv {N : Nat} {ty0 : Nat → FieldType} {fs : List Value} (h : ∀ j, j < N → defaultValue (ty0 j) = vp_V fs j) : ∀ j, j < N → defaultValue (ty0 j) = vp_V fs j := h
theorem mm_nei {x v : Int32} {k : Int} (h : ¬ x = v) (hv : v.toInt = k) : x.toInt ≠ k := fun z => h (Int32.toInt_inj.mp (z.trans hv.symm))
section MMQ
variable {d : Nat} {y : MethodName} {cc : ByteArray} {nL : Nat} {ret : Option FieldType} {oz : String ⊕ Option Value} {hz : MH} {V : Nat → List (Nat × Value) → List Value → MH → Prop} {pc : Nat} {lv lv' : List (Nat × Value)} {st stk : List Value} {h h1 : MH} {r w : Option Nat}
theorem mm_puti (C : mm_C d y cc nL ret oz hz V) {R : String} {T : u_T} {N ci k idx : Nat} {x : Int32} (fin : Bool) (hini : fin = true → y.name = "<init>" ∧ (T k).1 = y.cls) (hin : ∀ w ∈ u_ws R T N, w ∈ lw_good) (ty0 : Nat → FieldType) (hty : ∀ k, k < N → parseFieldDescriptor (T k).2.2.1 = some (ty0 k)) (hnm0 : ∀ a, a < N → ∀ b, b < N → a ≠ b → (T a).2.1 ≠ (T b).2.1) (hc : mm_cl[ci]? = some (R, T, N)) (hk : k < N) (hw : Cond.fieldLink y.cls idx (T k).1 (T k).2.1 (T k).2.2.1 ∈ lw_good) (hfin : (T k).2.2.2 = fin) (hdy : ty0 k = .int) (hd : decode cc pc = .ok (.putfield idx, 3)) (hp : pI h r ci k x = some h1) (kk : V (pc + 3) lv st h1) : V pc lv (.int x :: va_rf r :: st) h :=
  mm_put C fin hin ty0 hty hnm0 hc hk hw hfin hini (by rw [hty k hk, hdy]) (fun _ => rfl) (fun _ => rfl) hd hp kk
theorem mm_putz (C : mm_C d y cc nL ret oz hz V) {R : String} {T : u_T} {N ci k idx : Nat} {x : Int32} (fin : Bool) (hini : fin = true → y.name = "<init>" ∧ (T k).1 = y.cls) (hin : ∀ w ∈ u_ws R T N, w ∈ lw_good) (ty0 : Nat → FieldType) (hty : ∀ k, k < N → parseFieldDescriptor (T k).2.2.1 = some (ty0 k)) (hnm0 : ∀ a, a < N → ∀ b, b < N → a ≠ b → (T a).2.1 ≠ (T b).2.1) (hc : mm_cl[ci]? = some (R, T, N)) (hk : k < N) (hw : Cond.fieldLink y.cls idx (T k).1 (T k).2.1 (T k).2.2.1 ∈ lw_good) (hfin : (T k).2.2.2 = fin) (hdy : ty0 k = .boolean) (hd : decode cc pc = .ok (.putfield idx, 3)) (hp : pZ h r ci k x = some h1) (kk : V (pc + 3) lv st h1) : V pc lv (.int x :: va_rf r :: st) h := by
  unfold pZ at hp
  split at hp
  case isFalse => cases hp
  rename_i hx
  exact mm_put C fin hin ty0 hty hnm0 hc hk hw hfin hini (by rw [hty k hk, hdy]) (fun _ => mm_nrZ hx) (fun _ => by rcases hx with rfl | rfl <;> rfl) hd hp kk
theorem mm_putl (C : mm_C d y cc nL ret oz hz V) {R : String} {T : u_T} {N ci k idx : Nat} {x : Int64} (fin : Bool) (hini : fin = true → y.name = "<init>" ∧ (T k).1 = y.cls) (hin : ∀ w ∈ u_ws R T N, w ∈ lw_good) (ty0 : Nat → FieldType) (hty : ∀ k, k < N → parseFieldDescriptor (T k).2.2.1 = some (ty0 k)) (hnm0 : ∀ a, a < N → ∀ b, b < N → a ≠ b → (T a).2.1 ≠ (T b).2.1) (hc : mm_cl[ci]? = some (R, T, N)) (hk : k < N) (hw : Cond.fieldLink y.cls idx (T k).1 (T k).2.1 (T k).2.2.1 ∈ lw_good) (hfin : (T k).2.2.2 = fin) (hdy : ty0 k = .long) (hd : decode cc pc = .ok (.putfield idx, 3)) (hp : pL h r ci k x = some h1) (kk : V (pc + 3) lv st h1) : V pc lv (.long x :: va_rf r :: st) h :=
  mm_put C fin hin ty0 hty hnm0 hc hk hw hfin hini (by rw [hty k hk, hdy]) (fun _ => rfl) (fun _ => rfl) hd hp kk
def mm_isRT : FieldType → Bool
  | .object _ => true
  | .array _ => true
  | _ => false
theorem mm_putr (C : mm_C d y cc nL ret oz hz V) {R : String} {T : u_T} {N ci k idx : Nat} {x : Option Nat} (fin : Bool) (hini : fin = true → y.name = "<init>" ∧ (T k).1 = y.cls) (hin : ∀ w ∈ u_ws R T N, w ∈ lw_good) (ty0 : Nat → FieldType) (hty : ∀ k, k < N → parseFieldDescriptor (T k).2.2.1 = some (ty0 k)) (hnm0 : ∀ a, a < N → ∀ b, b < N → a ≠ b → (T a).2.1 ≠ (T b).2.1) (hc : mm_cl[ci]? = some (R, T, N)) (hk : k < N) (hw : Cond.fieldLink y.cls idx (T k).1 (T k).2.1 (T k).2.2.1 ∈ lw_good) (hfin : (T k).2.2.2 = fin) (hdy : mm_isRT (ty0 k) = true) (hd : decode cc pc = .ok (.putfield idx, 3)) (hp : pR h r ci k x = some h1) (kk : V (pc + 3) lv st h1) : V pc lv (va_rf x :: va_rf r :: st) h := by
  have hh := hty k hk
  generalize ty0 k = t9 at hh hdy
  cases t9 <;> first | (cases hdy; done) | skip
  all_goals exact mm_put C fin hin ty0 hty hnm0 hc hk hw hfin hini hh (fun G => by cases x <;> rfl) (fun G => by cases x <;> rfl) hd hp kk
end MMQ
