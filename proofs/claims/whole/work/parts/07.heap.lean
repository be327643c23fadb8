/-! the small machine's doings on its heap -/
def hS (h : MH) (a : Nat) (x : mm_Cl) : MH := (fun b => if b = a then x else h.1 b, h.2)
def gF (h : MH) (r : Option Nat) (c k : Nat) : Option Value := match r with
  | none => none
  | some a => match h.1 a with
    | .inr (some (c', fs)) => if c' = c then fs[k]? else none
    | _ => none
def gI (h : MH) (r : Option Nat) (c k : Nat) : Option Int32 := match gF h r c k with
  | some (.int x) => some x
  | _ => none
def gL (h : MH) (r : Option Nat) (c k : Nat) : Option Int64 := match gF h r c k with
  | some (.long x) => some x
  | _ => none
def gR (h : MH) (r : Option Nat) (c k : Nat) : Option (Option Nat) := match gF h r c k with
  | some (.ref a) => some (some a)
  | some .null => some none
  | _ => none
def pF (h : MH) (r : Option Nat) (c k : Nat) (v : Value) : Option MH := match r with
  | none => none
  | some a => match h.1 a with
    | .inr (some (c', fs)) => if c' = c ∧ k < fs.length ∧ 128 ≤ a then some (hS h a (.inr (some (c, fs.set k v)))) else none
    | _ => none
def pI (h : MH) (r : Option Nat) (c k : Nat) (x : Int32) : Option MH := pF h r c k (.int x)
def pZ (h : MH) (r : Option Nat) (c k : Nat) (x : Int32) : Option MH := if x = 0 ∨ x = 1 then pF h r c k (.int x) else none
def pL (h : MH) (r : Option Nat) (c k : Nat) (x : Int64) : Option MH := pF h r c k (.long x)
def pR (h : MH) (r : Option Nat) (c k : Nat) (x : Option Nat) : Option MH := pF h r c k (va_rf x)
def aI (h : MH) (r : Option Nat) (t : Nat) (i : Int32) : Option Int32 := match r with
  | none => none
  | some a => match h.1 a with
    | .inl (t', n, .inl f) => if t' = t ∧ ¬ i < 0 ∧ i.toNatClampNeg < n then some (f i.toNatClampNeg) else none
    | _ => none
def aL (h : MH) (r : Option Nat) (i : Int32) : Option Int64 := match r with
  | none => none
  | some a => match h.1 a with
    | .inl (t', n, .inr (.inl f)) => if t' = 1 ∧ ¬ i < 0 ∧ i.toNatClampNeg < n then some (f i.toNatClampNeg) else none
    | _ => none
def aR (h : MH) (r : Option Nat) (t : Nat) (i : Int32) : Option (Option Nat) := match r with
  | none => none
  | some a => match h.1 a with
    | .inl (t', n, .inr (.inr f)) => if t' = t ∧ ¬ i < 0 ∧ i.toNatClampNeg < n then some (f i.toNatClampNeg) else none
    | _ => none
def aN (h : MH) (r : Option Nat) : Option Int32 := match r with
  | none => none
  | some a => match h.1 a with
    | .inl (_, n, _) => some (Int32.ofNat n)
    | _ => none
def sI (h : MH) (r : Option Nat) (t : Nat) (i x : Int32) : Option MH := match r with
  | none => none
  | some a => match h.1 a with
    | .inl (t', n, .inl f) => if t' = t ∧ ¬ i < 0 ∧ i.toNatClampNeg < n ∧ 128 ≤ a then some (hS h a (.inl (t, n, .inl (upd f i.toNatClampNeg x)))) else none
    | _ => none
def sL (h : MH) (r : Option Nat) (i : Int32) (x : Int64) : Option MH := match r with
  | none => none
  | some a => match h.1 a with
    | .inl (t', n, .inr (.inl f)) => if t' = 1 ∧ ¬ i < 0 ∧ i.toNatClampNeg < n ∧ 128 ≤ a then some (hS h a (.inl (1, n, .inr (.inl (vp_updL f i.toNatClampNeg x))))) else none
    | _ => none
def sR (h : MH) (r : Option Nat) (t cv : Nat) (i : Int32) (v : Option Nat) : Option MH := match r, v with
  | some a, some b => match h.1 a, h.1 b with
    | .inl (t', n, .inr (.inr f)), .inr (some (c', _)) => if t' = t ∧ ¬ i < 0 ∧ i.toNatClampNeg < n ∧ 128 ≤ a ∧ c' = cv then some (hS h a (.inl (t, n, .inr (.inr (va_up f i.toNatClampNeg (some b)))))) else none
    | _, _ => none
  | _, _ => none
def cpI (h : MH) (r : Option Nat) (sp : Int32) (w : Option Nat) (dp n : Int32) : Option MH := match r, w with
  | some a, some b => match h.1 a, h.1 b with
    | .inl (t0, n0, .inl f), .inl (t1, n1, .inl g) => if t0 = 0 ∧ t1 = 0 ∧ ¬ sp < 0 ∧ ¬ dp < 0 ∧ ¬ n < 0 ∧ sp.toNatClampNeg + n.toNatClampNeg ≤ n0 ∧ dp.toNatClampNeg + n.toNatClampNeg ≤ n1 ∧ 128 ≤ b then some (hS h b (.inl (0, n1, .inl (va_cpy f g sp.toNatClampNeg dp.toNatClampNeg n.toNatClampNeg)))) else none
    | _, _ => none
  | _, _ => none
def hN (h : MH) (x : mm_Cl) (N : Nat) : Option (Option Nat × MH) := if h.2.1 + 1 ≤ mm_capC ∧ h.2.2 + N ≤ mm_capS then some (some h.2.1, (fun b => if b = h.2.1 then x else h.1 b, h.2.1 + 1, h.2.2 + N)) else none
def nO (h : MH) (c : Nat) (fs : List Value) (N : Nat) : Option (Option Nat × MH) := hN h (.inr (some (c, fs))) N
def nI_ (h : MH) (t : Nat) (n : Int32) : Option (Option Nat × MH) := if n < 0 then none else hN h (.inl (t, n.toNatClampNeg, .inl (fun _ => 0))) n.toNatClampNeg
def nL_ (h : MH) (n : Int32) : Option (Option Nat × MH) := if n < 0 then none else hN h (.inl (1, n.toNatClampNeg, .inr (.inl (fun _ => 0)))) n.toNatClampNeg
def nR_ (h : MH) (t : Nat) (n : Int32) : Option (Option Nat × MH) := if n < 0 then none else hN h (.inl (t, n.toNatClampNeg, .inr (.inr (fun _ => none)))) n.toNatClampNeg
def tH (h : MH) : Option MH := if h.2.1 + 1 ≤ mm_capC ∧ h.2.2 + 6 ≤ mm_capS then some (h.1, h.2.1 + 1, h.2.2 + 6) else none
/-! what they tell when they go through -/
theorem gF_some {h : MH} {r : Option Nat} {c k : Nat} {v : Value} (q : gF h r c k = some v) : ∃ a fs, r = some a ∧ h.1 a = .inr (some (c, fs)) ∧ fs[k]? = some v := by
  unfold gF at q
  repeat' split at q
  all_goals first | cases q; done | skip
  rename_i a _ c' fs e hc
  subst hc
  exact ⟨a, fs, rfl, e, q⟩
theorem gI_some {h : MH} {r : Option Nat} {c k : Nat} {x : Int32} (q : gI h r c k = some x) : gF h r c k = some (.int x) := by
  unfold gI at q
  split at q
  · rename_i e; cases q; exact e
  · cases q
theorem gL_some {h : MH} {r : Option Nat} {c k : Nat} {x : Int64} (q : gL h r c k = some x) : gF h r c k = some (.long x) := by
  unfold gL at q
  split at q
  · rename_i e; cases q; exact e
  · cases q
theorem gR_some {h : MH} {r : Option Nat} {c k : Nat} {x : Option Nat} (q : gR h r c k = some x) : gF h r c k = some (va_rf x) := by
  unfold gR at q
  split at q
  · rename_i e; cases q; exact e
  · rename_i e; cases q; exact e
  · cases q
theorem pF_some {h h1 : MH} {r : Option Nat} {c k : Nat} {v : Value} (q : pF h r c k v = some h1) : ∃ a fs, r = some a ∧ h.1 a = .inr (some (c, fs)) ∧ k < fs.length ∧ 128 ≤ a ∧ h1 = hS h a (.inr (some (c, fs.set k v))) := by
  unfold pF at q
  repeat' split at q
  all_goals first | cases q; done | skip
  rename_i a _ c' fs e hc
  obtain ⟨rfl, h2, h3⟩ := hc
  cases q
  exact ⟨a, fs, rfl, e, h2, h3, rfl⟩
theorem aI_some {h : MH} {r : Option Nat} {t : Nat} {i v : Int32} (q : aI h r t i = some v) : ∃ a n f, r = some a ∧ h.1 a = .inl (t, n, .inl f) ∧ vp_in i n ∧ v = f i.toNatClampNeg := by
  unfold aI at q
  repeat' split at q
  all_goals first | cases q; done | skip
  rename_i a _ t' n f e hc
  obtain ⟨rfl, h2, h3⟩ := hc
  cases q
  exact ⟨a, n, f, rfl, e, fun z => z.elim h2 (fun z => by omega), rfl⟩
theorem aL_some {h : MH} {r : Option Nat} {i : Int32} {v : Int64} (q : aL h r i = some v) : ∃ a n f, r = some a ∧ h.1 a = .inl (1, n, .inr (.inl f)) ∧ vp_in i n ∧ v = f i.toNatClampNeg := by
  unfold aL at q
  repeat' split at q
  all_goals first | cases q; done | skip
  rename_i a _ t' n f e hc
  obtain ⟨rfl, h2, h3⟩ := hc
  cases q
  exact ⟨a, n, f, rfl, e, fun z => z.elim h2 (fun z => by omega), rfl⟩
theorem aR_some {h : MH} {r : Option Nat} {t : Nat} {i : Int32} {v : Option Nat} (q : aR h r t i = some v) : ∃ a n f, r = some a ∧ h.1 a = .inl (t, n, .inr (.inr f)) ∧ vp_in i n ∧ v = f i.toNatClampNeg := by
  unfold aR at q
  repeat' split at q
  all_goals first | cases q; done | skip
  rename_i a _ t' n f e hc
  obtain ⟨rfl, h2, h3⟩ := hc
  cases q
  exact ⟨a, n, f, rfl, e, fun z => z.elim h2 (fun z => by omega), rfl⟩
theorem aN_some {h : MH} {r : Option Nat} {v : Int32} (q : aN h r = some v) : ∃ a t n f, r = some a ∧ h.1 a = .inl (t, n, f) ∧ v = Int32.ofNat n := by
  unfold aN at q
  repeat' split at q
  all_goals first | cases q; done | skip
  rename_i a _ t n f e
  cases q
  exact ⟨a, t, n, f, rfl, e, rfl⟩
theorem sI_some {h h1 : MH} {r : Option Nat} {t : Nat} {i x : Int32} (q : sI h r t i x = some h1) : ∃ a n f, r = some a ∧ h.1 a = .inl (t, n, .inl f) ∧ vp_in i n ∧ 128 ≤ a ∧ h1 = hS h a (.inl (t, n, .inl (upd f i.toNatClampNeg x))) := by
  unfold sI at q
  repeat' split at q
  all_goals first | cases q; done | skip
  rename_i a _ t' n f e hc
  obtain ⟨rfl, h2, h3, h4⟩ := hc
  cases q
  exact ⟨a, n, f, rfl, e, fun z => z.elim h2 (fun z => by omega), h4, rfl⟩
theorem sL_some {h h1 : MH} {r : Option Nat} {i : Int32} {x : Int64} (q : sL h r i x = some h1) : ∃ a n f, r = some a ∧ h.1 a = .inl (1, n, .inr (.inl f)) ∧ vp_in i n ∧ 128 ≤ a ∧ h1 = hS h a (.inl (1, n, .inr (.inl (vp_updL f i.toNatClampNeg x)))) := by
  unfold sL at q
  repeat' split at q
  all_goals first | cases q; done | skip
  rename_i a _ t' n f e hc
  obtain ⟨rfl, h2, h3, h4⟩ := hc
  cases q
  exact ⟨a, n, f, rfl, e, fun z => z.elim h2 (fun z => by omega), h4, rfl⟩
theorem sR_some {h h1 : MH} {r v : Option Nat} {t cv : Nat} {i : Int32} (q : sR h r t cv i v = some h1) : ∃ a b n f fs, r = some a ∧ v = some b ∧ h.1 a = .inl (t, n, .inr (.inr f)) ∧ h.1 b = .inr (some (cv, fs)) ∧ vp_in i n ∧ 128 ≤ a ∧ h1 = hS h a (.inl (t, n, .inr (.inr (va_up f i.toNatClampNeg (some b))))) := by
  unfold sR at q
  repeat' split at q
  all_goals first | cases q; done | skip
  rename_i a b _ _ t' n f c' fs e1 e2 hc
  obtain ⟨rfl, h2, h3, h4, rfl⟩ := hc
  cases q
  exact ⟨a, b, n, f, fs, rfl, rfl, e1, e2, fun z => z.elim h2 (fun z => by omega), h4, rfl⟩
theorem cpI_some {h h1 : MH} {r w : Option Nat} {sp dp n : Int32} (q : cpI h r sp w dp n = some h1) : ∃ a b n0 n1 f g, r = some a ∧ w = some b ∧ h.1 a = .inl (0, n0, .inl f) ∧ h.1 b = .inl (0, n1, .inl g) ∧ (¬ sp < 0 ∧ ¬ dp < 0 ∧ ¬ n < 0 ∧ sp.toNatClampNeg + n.toNatClampNeg ≤ n0 ∧ dp.toNatClampNeg + n.toNatClampNeg ≤ n1) ∧ 128 ≤ b ∧ h1 = hS h b (.inl (0, n1, .inl (va_cpy f g sp.toNatClampNeg dp.toNatClampNeg n.toNatClampNeg))) := by
  unfold cpI at q
  repeat' split at q
  all_goals first | cases q; done | skip
  rename_i a b _ _ t0 n0 f t1 n1 g e1 e2 hc
  obtain ⟨rfl, rfl, h2, h3, h4, h5, h6, h7⟩ := hc
  cases q
  exact ⟨a, b, n0, n1, f, g, rfl, rfl, e1, e2, ⟨h2, h3, h4, h5, h6⟩, h7, rfl⟩
theorem hN_some {h h1 : MH} {x : mm_Cl} {N : Nat} {r : Option Nat} (q : hN h x N = some (r, h1)) : h.2.1 + 1 ≤ mm_capC ∧ h.2.2 + N ≤ mm_capS ∧ r = some h.2.1 ∧ h1 = (fun b => if b = h.2.1 then x else h.1 b, h.2.1 + 1, h.2.2 + N) := by
  unfold hN at q
  split at q
  · rename_i hc
    cases q
    exact ⟨hc.1, hc.2, rfl, rfl⟩
  · cases q
theorem tH_some {h h1 : MH} (q : tH h = some h1) : h.2.1 + 1 ≤ mm_capC ∧ h.2.2 + 6 ≤ mm_capS ∧ h1 = (h.1, h.2.1 + 1, h.2.2 + 6) := by
  unfold tH at q
  split at q
  · rename_i hc
    cases q
    exact ⟨hc.1, hc.2, rfl⟩
  · cases q
/-! the two heaps move together -/
theorem mm_ad_hi {G : mm_G} {a : Nat} (h : 128 ≤ a) : mm_ad G a = G.2.2.2.size + (a - 128) := by unfold mm_ad; rw [if_neg (by omega)]
theorem mm_ext_obj {a c : Nat} {fs : List Value} (h : mm_ext a = .inr (some (c, fs))) : c = 13 := by
  unfold mm_ext at h
  split at h
  · simp only [Sum.inr.injEq, Option.some.injEq, Prod.mk.injEq] at h
    exact h.1.symm
  · split at h <;> simp at h
theorem mm_ext_arr {a t n : Nat} {f : (Nat → Int32) ⊕ (Nat → Int64) ⊕ (Nat → Option Nat)} (h : mm_ext a = .inl (t, n, f)) : t = 2 ∧ 64 ≤ a ∧ a < 115 ∧ n = (mm_byt (a - 64)).length ∧ f = .inl (fun j => (mm_byt (a - 64)).getD j 0) := by
  unfold mm_ext at h
  split at h
  · simp at h
  · split at h
    · rename_i hq
      simp only [Sum.inl.injEq, Prod.mk.injEq] at h
      exact ⟨h.1.symm, hq.1, hq.2, h.2.1.symm, h.2.2.symm⟩
    · simp at h
theorem mm_R.lt {G : mm_G} {h : MH} {H : Heap} (hR : mm_R G h H) {a : Nat} (he : h.1 a ≠ .inr none) : a < h.2.1 := by
  obtain ⟨-, -, -, -, -, h6⟩ := hR
  exact Nat.not_le.mp fun q => he (h6 a q)
theorem mm_R.lo {G : mm_G} {h : MH} {H : Heap} (hR : mm_R G h H) {a : Nat} (ha : a < 128) (h7 : ∀ n f, h.1 a ≠ .inl (7, n, f)) : h.1 a = mm_ext a := by
  obtain ⟨-, -, -, h4, -, -⟩ := hR
  rcases h4 a ha with h9 | ⟨-, L, xs, h9, -⟩
  · exact h9
  · exact (h7 _ _ h9).elim
theorem mm_R.hi {G : mm_G} {h : MH} {H : Heap} (hR : mm_R G h H) {a c : Nat} {fs : List Value} (hc : c ≠ 13) (he : h.1 a = .inr (some (c, fs))) : 128 ≤ a ∧ a < h.2.1 := by
  refine ⟨Nat.not_lt.mp fun q => hc ?_, hR.lt (by rw [he]; intro z; cases z)⟩
  rw [hR.lo q (by rw [he]; intro n f z; cases z)] at he
  exact mm_ext_obj he
theorem mm_R.hia {G : mm_G} {h : MH} {H : Heap} (hR : mm_R G h H) {a t n : Nat} {f : (Nat → Int32) ⊕ (Nat → Int64) ⊕ (Nat → Option Nat)} (hc : t ≠ 2 ∧ t ≠ 7) (he : h.1 a = .inl (t, n, f)) : 128 ≤ a ∧ a < h.2.1 := by
  refine ⟨Nat.not_lt.mp fun q => hc.1 ?_, hR.lt (by rw [he]; intro z; cases z)⟩
  rw [hR.lo q (by rw [he]; intro n f z; cases z; exact hc.2 rfl)] at he
  exact (mm_ext_arr he).1
theorem mm_R.at {G : mm_G} {h : MH} {H : Heap} (hR : mm_R G h H) {a : Nat} (h1 : 128 ≤ a) (h2 : a < h.2.1) {e : va_E} (he : mm_e G (h.1 a) = some e) : va_at G.1 mm_cl (mm_ad G a, e) H := by
  obtain ⟨-, -, -, -, h5, -⟩ := hR
  exact h5 a h1 h2 e he
theorem mm_R.one {G : mm_G} {h : MH} {H : Heap} (hR : mm_R G h H) {a : Nat} (h1 : 128 ≤ a) (h2 : a < h.2.1) {e : va_E} (he : mm_e G (h.1 a) = some e) : va_P G.1 mm_cl [(mm_ad G a, e)] H := by
  intro k q hk
  match k, hk with
  | 0, hk => cases hk; exact hR.at h1 h2 he
  | k + 1, hk => simp at hk
theorem mm_R.set {G : mm_G} {h : MH} {H H1 : Heap} (hR : mm_R G h H) {a : Nat} {x : mm_Cl} (ha : 128 ≤ a) (hb : a < h.2.1) (hz : H1.size = H.size) (oq : ∀ q : Nat, q ≠ mm_ad G a → H1[q]? = H[q]?) (hat : ∀ e, mm_e G x = some e → va_at G.1 mm_cl (mm_ad G a, e) H1) : mm_R G (hS h a x) H1 := by
  obtain ⟨h1, h2, h3, h4, h5, h6⟩ := hR
  refine ⟨h1, by rw [hz]; exact h2, fun q hq => ?_, fun b hb' => ?_, fun b hb1 hb2 e he => ?_, fun b hb' => ?_⟩
  · rw [oq q (by rw [mm_ad_hi ha]; omega)]
    exact h3 q hq
  · have e1 : (hS h a x).1 b = h.1 b := if_neg (by omega)
    rw [e1]
    exact h4 b hb'
  · by_cases hba : b = a
    · subst hba
      exact hat e (by have : (hS h b x).1 b = x := if_pos rfl; rw [this] at he; exact he)
    · have e1 : (hS h a x).1 b = h.1 b := if_neg hba
      rw [e1] at he
      exact (h5 b hb1 hb2 e he).kept (oq _ (by show mm_ad G b ≠ _; rw [mm_ad_hi hb1, mm_ad_hi ha]; omega))
  · obtain ⟨h1, -, -⟩ := h1
    show (if b = a then x else h.1 b) = _
    have : h.2.1 ≤ b := hb'
    rw [if_neg (by omega)]
    exact h6 b hb'
theorem mm_R.push {G : mm_G} {h : MH} {H H1 : Heap} (hR : mm_R G h H) {x : mm_Cl} {N : Nat} (hcap : h.2.1 + 1 ≤ mm_capC ∧ h.2.2 + N ≤ mm_capS) (hz : H1.size = H.size + 1) (oq : ∀ q : Nat, q < H.size → H1[q]? = H[q]?) (hat : ∀ e, mm_e G x = some e → va_at G.1 mm_cl (H.size, e) H1) : mm_R G (fun b => if b = h.2.1 then x else h.1 b, h.2.1 + 1, h.2.2 + N) H1 := by
  obtain ⟨h1, h2, h3, h4, h5, h6⟩ := hR
  obtain ⟨h1, -, -⟩ := h1
  refine ⟨⟨Nat.le_succ_of_le h1, hcap.1, hcap.2⟩, ?_, fun q hq => ?_, fun b hb' => ?_, fun b hb1 hb2 e he => ?_, fun b hb' => ?_⟩
  · show H1.size = _ + (h.2.1 + 1 - 128)
    rw [hz, h2]; omega
  · rw [oq q (by rw [h2]; omega)]
    exact h3 q hq
  · have e1 : (if b = h.2.1 then x else h.1 b) = h.1 b := if_neg (by omega)
    show (if b = h.2.1 then x else h.1 b) = mm_ext b ∨ (b = 121 ∧ mm_sc G (if b = h.2.1 then x else h.1 b))
    rw [e1]
    exact h4 b hb'
  · have he' : mm_e G (if b = h.2.1 then x else h.1 b) = some e := he
    by_cases hba : b = h.2.1
    · rw [if_pos hba] at he'
      rw [mm_ad_hi hb1, hba, ← h2]
      exact hat e he'
    · rw [if_neg hba] at he'
      have hb3 : b < h.2.1 := by have : b < h.2.1 + 1 := hb2; omega
      exact (h5 b hb1 hb3 e he').kept (oq _ (by show mm_ad G b < _; rw [mm_ad_hi hb1, h2]; omega))
  · have : h.2.1 + 1 ≤ b := hb'
    show (if b = h.2.1 then x else h.1 b) = _
    rw [if_neg (by omega)]
    exact h6 b (by omega)
/-! a row an instruction -/
section MMH
variable {d : Nat} {y : MethodName} {cc : ByteArray} {nL : Nat} {ret : Option FieldType} {oz : String ⊕ Option Value} {hz : MH} {V : Nat → List (Nat × Value) → List Value → MH → Prop} {pc : Nat} {lv lv' : List (Nat × Value)} {st : List Value} {h h1 : MH} {r : Option Nat}
theorem mm_get (C : mm_C d y cc nL ret oz hz V) {R : String} {T : u_T} {N ci k idx : Nat} {v : Value} (hin : ∀ w ∈ u_ws R T N, w ∈ lw_good) (hc : mm_cl[ci]? = some (R, T, N)) (hk : k < N) (hw : Cond.fieldLink y.cls idx (T k).1 (T k).2.1 (T k).2.2.1 ∈ lw_good) (hd : decode cc pc = .ok (.getfield idx, 3)) (hg : gF h r ci k = some v) (kk : V (pc + 3) lv (v :: st) h) : V pc lv (va_rf r :: st) h := by
  obtain ⟨a, fs, rfl, ea, ev⟩ := gF_some hg
  obtain ⟨p, l, e, s, m, args, below, meth, c, h0, G, ⟨hsl, hx, hb, hml, hr, hlk, hown, hnm, htab⟩, hts, hSt, rfl⟩ := C
  intro H locs ls hls a1 a2 a3 a4
  have hci : ci ≠ 13 := by intro z; subst z; simp at hc
  obtain ⟨b1, b2⟩ := a1.hi hci ea
  exact va_get (D := G.1) (cl := mm_cl) (ws := [(mm_ad G a, .inr (ci, fs.map (mm_v G)))]) hx hb hts hin hown hSt.2.1 (a1.one b1 b2 (by rw [ea]; rfl)) 0 rfl hc k hk (hts _ hw) (fun _ h9 => h9) (v := mm_v G v) (by simp [ev]) hd (kk H locs ls hls a1 a2 a3 a4)
theorem mm_geti (C : mm_C d y cc nL ret oz hz V) {R : String} {T : u_T} {N ci k idx : Nat} {v : Int32} (hin : ∀ w ∈ u_ws R T N, w ∈ lw_good) (hc : mm_cl[ci]? = some (R, T, N)) (hk : k < N) (hw : Cond.fieldLink y.cls idx (T k).1 (T k).2.1 (T k).2.2.1 ∈ lw_good) (hd : decode cc pc = .ok (.getfield idx, 3)) (hg : gI h r ci k = some v) (kk : V (pc + 3) lv (.int v :: st) h) : V pc lv (va_rf r :: st) h := mm_get C hin hc hk hw hd (gI_some hg) kk
theorem mm_getl (C : mm_C d y cc nL ret oz hz V) {R : String} {T : u_T} {N ci k idx : Nat} {v : Int64} (hin : ∀ w ∈ u_ws R T N, w ∈ lw_good) (hc : mm_cl[ci]? = some (R, T, N)) (hk : k < N) (hw : Cond.fieldLink y.cls idx (T k).1 (T k).2.1 (T k).2.2.1 ∈ lw_good) (hd : decode cc pc = .ok (.getfield idx, 3)) (hg : gL h r ci k = some v) (kk : V (pc + 3) lv (.long v :: st) h) : V pc lv (va_rf r :: st) h := mm_get C hin hc hk hw hd (gL_some hg) kk
theorem mm_getr (C : mm_C d y cc nL ret oz hz V) {R : String} {T : u_T} {N ci k idx : Nat} {v : Option Nat} (hin : ∀ w ∈ u_ws R T N, w ∈ lw_good) (hc : mm_cl[ci]? = some (R, T, N)) (hk : k < N) (hw : Cond.fieldLink y.cls idx (T k).1 (T k).2.1 (T k).2.2.1 ∈ lw_good) (hd : decode cc pc = .ok (.getfield idx, 3)) (hg : gR h r ci k = some v) (kk : V (pc + 3) lv (va_rf v :: st) h) : V pc lv (va_rf r :: st) h := mm_get C hin hc hk hw hd (gR_some hg) kk
theorem mm_fsmap {G : mm_G} {fs : List Value} {k : Nat} {v : Value} (hl : k < fs.length) (j : Nat) : updV (vp_V (fs.map (mm_v G))) k (mm_v G v) j = vp_V ((fs.set k v).map (mm_v G)) j := by
  rw [List.map_set]
  exact vp_updV_set (by simpa using hl) _ j
theorem mm_put (C : mm_C d y cc nL ret oz hz V) {R : String} {T : u_T} {N ci k idx : Nat} {v : Value} {ty : FieldType} (fin : Bool) (hin : ∀ w ∈ u_ws R T N, w ∈ lw_good) (ty0 : Nat → FieldType) (hty : ∀ k, k < N → parseFieldDescriptor (T k).2.2.1 = some (ty0 k)) (hnm0 : ∀ a, a < N → ∀ b, b < N → a ≠ b → (T a).2.1 ≠ (T b).2.1) (hc : mm_cl[ci]? = some (R, T, N)) (hk : k < N) (hw : Cond.fieldLink y.cls idx (T k).1 (T k).2.1 (T k).2.2.1 ∈ lw_good) (hfin : (T k).2.2.2 = fin) (hini : fin = true → y.name = "<init>" ∧ (T k).1 = y.cls) (hdy : parseFieldDescriptor (T k).2.2.1 = some ty) (hn : ∀ G : mm_G, narrow ty (mm_v G v) = mm_v G v) (hf : ∀ G : mm_G, fits ty (mm_v G v) = true) (hd : decode cc pc = .ok (.putfield idx, 3)) (hp : pF h r ci k v = some h1) (kk : V (pc + 3) lv st h1) : V pc lv (v :: va_rf r :: st) h := by
  obtain ⟨a, fs, rfl, ea, hl, b1, rfl⟩ := pF_some hp
  obtain ⟨p, l, e, s, m, args, below, meth, c, h0, G, ⟨hsl, hx, hb, hml, hr, hlk, hown, hnm, htab⟩, hts, hSt, rfl⟩ := C
  intro H locs ls hls a1 a2 a3 a4
  have hci : ci ≠ 13 := by intro z; subst z; simp at hc
  obtain ⟨b1, b2⟩ := a1.hi hci ea
  have hK := hSt.2.1
  have hap := va_apart (own := y.cls) hts hin ty0 hty hnm0 hK hc
  obtain ⟨r9, r1, cell, q1, q2, q3, q4⟩ := a1.at b1 b2 (e := .inr (ci, fs.map (mm_v G))) (by rw [ea]; rfl)
  have hr9 : r9 = (R, T, N) := Option.some.inj (r1.symm.trans hc)
  subst hr9
  obtain ⟨hSl, hfc, kC, hkC, hkind⟩ := hK.1 ci _ hc
  obtain ⟨cf, kf, fi, f, hi, hsl9⟩ := hSl k hk
  have hlay := hts _ (hin _ (u_in_lay hk))
  have hst := (u_facts hfc hkC (u_lays hts hin hk) hi).1
  have fin_ : ∀ (H' : Heap), H'[mm_ad G a]? = some (cell.setSlot f.slot (mm_v G v)) → H'.size = H.size → (∀ q, q ≠ mm_ad G a → H'[q]? = H[q]?) → W p l e (mm_rm d h0) s m args below meth c H' (locs ++ [⟨mm_ad G a, f.slot⟩]) (h.2.1 - h0.2.1) (h.2.2 - h0.2.2) (vx_MQ below (mm_Qc G h0 oz hz) (mm_XC G h0 oz hz) args s (hz.2.1 - h0.2.1) (hz.2.2 - h0.2.2) (mm_A G)) (F0 m (pc + 3) ls (st.map (mm_v G))) := by
    intro H' e1 e2 e3
    refine kk H' _ ls hls (a1.set b1 b2 e2 e3 ?_) ?_ a3 a4
    · intro e9 he9
      cases he9
      rw [hsl9] at e1
      exact ⟨_, hc, t_OB.to (V := updV (vp_V (fs.map (mm_v G))) k (mm_v G v)) ⟨_, e1, q2, q3, t_set q4 hap hk _⟩ (fun j _ => mm_fsmap hl j)⟩
    · intro q hq
      rcases List.mem_append.mp hq with h9 | h9
      · exact a2 q h9
      · rw [List.mem_singleton.mp h9]
        show _ ≤ mm_ad G a
        rw [mm_ad_hi b1]; omega
  cases fin with
  | false =>
    unfold u_lay at hlay
    rw [if_neg (by rw [hfin]; decide)] at hlay
    have h6 := u_store hfc hkC hkind hlay hi hdy (hn G) (hf G)
    exact W.putK hx hb (f := f) ⟨hown, hts _ hw, ⟨_, _, _, hi⟩, hst⟩ (by rw [q2]; exact h6) q1 q3 (by rw [hsl9]; exact k2_hasslot (q4 k hk)) rfl rfl hd fin_
  | true =>
    unfold u_lay at hlay
    rw [if_pos hfin] at hlay
    have hcf : m.cls = cf := by
      obtain ⟨_, _, c', _, _, _, -, -, hf', -, -, -, hown2, -⟩ := Cond.laysFinal_spec hlay
      have e1 : c' = cf := by have := hi.symm.trans hf'; simp at this; exact this.1.symm
      rw [(hini rfl).2] at hown2
      rw [← e1]; exact Option.some.inj (hown.symm.trans hown2)
    have h6 := u_fits hfc hkC hkind (Or.inr hlay) hi hdy (hn G) (hf G)
    exact W.putFinK hx hb hown (hts _ hw) hi hst hcf (by rw [hnm]; exact (hini rfl).1) (by rw [q2]; exact h6) q1 q3 (by rw [hsl9]; exact k2_hasslot (q4 k hk)) rfl rfl hd fin_
end MMH
