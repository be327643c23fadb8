section MMX
variable {d : Nat} {y : MethodName} {cc : ByteArray} {nL : Nat} {ret : Option FieldType} {oz : String ⊕ Option Value} {hz : MH} {V : Nat → List (Nat × Value) → List Value → MH → Prop} {pc : Nat} {lv lv' : List (Nat × Value)} {st stk : List Value} {h h1 : MH} {r w : Option Nat}
def rOK (r : Option Nat) : Bool := match r with
  | none => true
  | some a => decide (128 ≤ a)
theorem mm_inj {G : mm_G} {rx ry : Option Nat} (h1 : rOK rx = true) (h2 : rOK ry = true) : rx.map (mm_ad G) = ry.map (mm_ad G) ↔ rx = ry := by
  cases rx <;> cases ry <;> simp [rOK] at h1 h2 ⊢
  rename_i a b
  rw [mm_ad_hi h1, mm_ad_hi h2]
  omega
theorem mm_acmp_ne (C : mm_C d y cc nL ret oz hz V) {rx ry : Option Nat} {off : Int} {tgt : Nat} (hd : decode cc pc = .ok (.if_acmp .ne off, 3)) (ht : (pc : Int) + off = (tgt : Int)) (g1 : rOK rx = true) (g2 : rOK ry = true) (kt : ¬ rx = ry → V tgt lv st h) (kf : rx = ry → V (pc + 3) lv st h) : V pc lv (va_rf ry :: va_rf rx :: st) h := by
  obtain ⟨p, l, e, s, m, args, below, meth, c, h0, G, ⟨hsl, hx, hb, hml, hr, hlk, hown, hnm, htab⟩, hts, hSt, rfl⟩ := C
  intro H locs ls hls a1 a2 a3 a4
  show W _ _ _ _ _ _ _ _ _ _ _ _ _ _ _ (F0 m pc ls (mm_v G (va_rf ry) :: mm_v G (va_rf rx) :: st.map (mm_v G)))
  rw [mm_v_rf, mm_v_rf]
  exact lv_acmp_ne hx hb hd ht (fun q => kt (fun z => q ((mm_inj g1 g2).mpr z)) H locs ls hls a1 a2 a3 a4) (fun q => kf ((mm_inj g1 g2).mp q) H locs ls hls a1 a2 a3 a4)
theorem mm_nn {z : Int32} (hz : ¬ z < 0) : z.toInt = (z.toNatClampNeg : Int) := by
  have hz0 : (0 : Int) ≤ z.toInt := by
    have := Int32.not_lt.mp hz
    simpa using Int32.le_iff_toInt_le.mp this
  show z.toInt = ((z.toInt.toNat : Nat) : Int)
  omega
theorem mm_copy (C : mm_C d y cc nL ret oz hz V) {idx : Nat} {sp dp n : Int32} (hw1 : Cond.methodLink y.cls idx arraycopyName ∈ lw_good) (hw2 : Cond.native arraycopyName ∈ lw_good) (hw3 : Cond.static arraycopyName ∈ lw_good) (hw4 : Cond.initialized "java/lang/System" ∈ lw_good) (hdd : 1 ≤ d) (hst : (st.map fun v => v.category).sum ≤ 8) (hd : decode cc pc = .ok (.invokestatic idx, 3)) (hg : cpI h r sp w dp n = some h1) (kk : V (pc + 3) lv st h1) : V pc lv (.int n :: .int dp :: va_rf w :: .int sp :: va_rf r :: st) h := by
  obtain ⟨a, b, n0, n1, f, g, rfl, rfl, ea, eb, ⟨g1, g2, g3, g4, g5⟩, b1, rfl⟩ := cpI_some hg
  obtain ⟨p, l, e, s, m, args, below, meth, c, h0, G, ⟨hsl, hx, hb, hml, hr, hlk, hown, hnm, htab⟩, hts, hSt, rfl⟩ := C
  intro H locs ls hls a1 a2 a3 a4
  have hcat : ((st.map (mm_v G)).map fun v => v.category) = st.map fun v => v.category := by rw [List.map_map]; apply List.map_congr_left; intro v _; exact mm_v_cat G v
  obtain ⟨b1, b2⟩ := a1.hia ⟨by decide, by decide⟩ eb
  obtain ⟨b3, b4⟩ := a1.hia ⟨by decide, by decide⟩ ea
  have hc0 : H[mm_ad G a]? = some (vp_cell (G.2.1 0) (n0, .inl f)) := a1.at b3 b4 (e := .inl (G.2.1 0, n0, .inl f)) (by rw [ea]; rfl)
  have hc1 : H[mm_ad G b]? = some (vp_cell (G.2.1 0) (n1, .inl g)) := a1.at b1 b2 (e := .inl (G.2.1 0, n1, .inl g)) (by rw [eb]; rfl)
  have hK := hSt.2.1
  obtain ⟨-, k0, hk0, cm0, hkk0⟩ := (hK.2 0 _ rfl).1 n0 (fun j => .int (f j))
  obtain ⟨-, k1, hk1, cm1, hkk1⟩ := (hK.2 0 _ rfl).1 n1 (fun j => .int (g j))
  intro T hT X
  obtain ⟨vm', X', step⟩ := X.arraycopy hx hown (hts _ hw1) (hts _ hw2) (hts _ hw3) (hts _ hw4) (src := mm_ad G a) (dst := mm_ad G b) (cs := vp_cell (G.2.1 0) (n0, .inl f)) (cd := vp_cell (G.2.1 0) (n1, .inl g)) (srcPos := sp) (destPos := dp) (n := n) (by rw [hT]; exact hc0) (by rw [hT]; exact hc1)
    (fun _ h => by cases h) (fun _ h => by cases h) (fun h => by cases h) (fun h => by cases h) hk0 hk1 hkk0 hkk1 (by rfl) g1 g2 g3
    (by rw [mm_nn g1, mm_nn g3]; show ¬ _ > ((arrV (G.2.1 0) n0 (fun j => .int (f j))).slots.size : Int); rw [arrV_size]; omega)
    (by rw [mm_nn g2, mm_nn g3]; show ¬ _ > ((arrV (G.2.1 0) n1 (fun j => .int (g j))).slots.size : Int); rw [arrV_size]; omega)
    (fun vm₁ _ i hi => by
      have e9 : (vp_cell (G.2.1 0) (n0, .inl f)).slots.getD (sp.toNatClampNeg + i) .null = .int (f (sp.toNatClampNeg + i)) := by
        show (arrV (G.2.1 0) n0 (fun j => .int (f j))).slots.getD _ _ = _
        rw [Array.getD_eq_getD_getElem?, arrV_read _ _ (by omega)]
        rfl
      refine ⟨?_, ?_⟩
      · rw [e9]
        rfl
      · rw [e9]
        exact trivial)
    (g := F0 m pc ls (.int n :: .int dp :: .ref (mm_ad G b) :: .int sp :: .ref (mm_ad G a) :: st.map (mm_v G))) rfl (by show ls.size = c.maxLocals; rw [hls.1, hml]) (rest := st.map (mm_v G)) rfl (by rw [hb]; exact hd) (by show 1 ≤ d; exact hdd) (by rw [hcat]; have h9 : nativeFrameWords "java/lang/System" "arraycopy" 5 ≤ 70 := (by decide); show 2 * 0 + _ + _ ≤ 100 * d; omega)
  have e1 : copied (vp_cell (G.2.1 0) (n0, .inl f)) (vp_cell (G.2.1 0) (n1, .inl g)) sp dp n = vp_cell (G.2.1 0) (n1, .inl (va_cpy f g sp.toNatClampNeg dp.toNatClampNeg n.toNatClampNeg)) := va_copied (fun z => .int z) (G.2.1 0) (G.2.1 0) f g g4
  rw [e1] at X' step
  have hl : mm_ad G b < H.size := (Array.getElem?_eq_some_iff.mp hc1).1
  have hheap : ((T.setVm vm').setCell (mm_ad G b) (vp_cell (G.2.1 0) (n1, .inl (va_cpy f g sp.toNatClampNeg dp.toNatClampNeg n.toNatClampNeg)))).heap = H.setIfInBounds (mm_ad G b) (vp_cell (G.2.1 0) (n1, .inl (va_cpy f g sp.toNatClampNeg dp.toNatClampNeg n.toNatClampNeg))) := by rw [← hT]; rfl
  have oq : ∀ q : Nat, q ≠ mm_ad G b → (H.setIfInBounds (mm_ad G b) (vp_cell (G.2.1 0) (n1, .inl (va_cpy f g sp.toNatClampNeg dp.toNatClampNeg n.toNatClampNeg))))[q]? = H[q]? := fun q hq => by simp [Array.getElem?_setIfInBounds, Ne.symm hq]
  obtain ⟨t, k8, k9⟩ := kk _ _ ls hls (a1.set b1 b2 (by simp) oq (fun e9 he9 => by
    cases he9
    show (H.setIfInBounds (mm_ad G b) _)[mm_ad G b]? = some _
    simp [Array.getElem?_setIfInBounds, hl])) (fun q hq => by
      rcases List.mem_append.mp hq with h9 | h9
      · exact a2 q h9
      · obtain ⟨z, -, hz9⟩ := List.mem_map.mp h9
        rw [← hz9]
        show _ ≤ mm_ad G b
        rw [mm_ad_hi b1]; omega) a3 a4 _ hheap X'
  exact ⟨t, step t k8, k9⟩
/-- a static of which only 'a reference or null' is said -/
def stF (b : Bool) : Option Nat := if b then some 120 else none
theorem mm_getsF (C : mm_C d y cc nL ret oz hz V) {idx : Nat} (hw : Cond.fieldLink y.cls idx "jdk/internal/util/Preconditions" "SIOOBE_FORMATTER" "Ljava/util/function/BiFunction;" ∈ lw_good) (hd : decode cc pc = .ok (.getstatic idx, 3)) (kk : ∀ b : Bool, V (pc + 3) lv (va_rf (stF b) :: st) h) : V pc lv st h := by
  obtain ⟨p, l, e, s, m, args, below, meth, c, h0, G, ⟨hsl, hx, hb, hml, hr, hlk, hown, hnm, htab⟩, hts, hSt, rfl⟩ := C
  intro H locs ls hls a1 a2 a3 a4
  have hkept : ∀ q : Nat, q < G.2.2.2.size → ¬ mm_A G q → H[q]? = G.2.2.2[q]? := fun q g1 _ => a1.2.2.1 q g1
  rcases hSt.2.2.2.2.2.1 with hz | hz
  · obtain ⟨cf, kf, fi, f, a, cell, t1, t2, t3, t4, t5, t6, t7, t8⟩ := hz.kept hkept
    exact W.gets hx hb hown (hts _ hw) t1 t2 t3 t4 t5 (by intro z; rw [z] at t6; cases t6) t7 rfl hd (kk false H locs ls hls a1 a2 a3 a4)
  · obtain ⟨cf, kf, fi, f, a, cell, t1, t2, t3, t4, t5, t6, t7, t8⟩ := hz.kept hkept
    exact W.gets hx hb hown (hts _ hw) t1 t2 t3 t4 t5 (by intro z; rw [z] at t6; cases t6) t7 rfl hd (kk true H locs ls hls a1 a2 a3 a4)
end MMX
