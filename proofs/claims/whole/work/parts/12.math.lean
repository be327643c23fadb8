theorem dJ9_floorMod_7cf53_0 : decode cJ9_floorMod_7cf53 0 = .ok (.iload_n 0, 1) := by decide +kernel
theorem dJ9_floorMod_7cf53_1 : decode cJ9_floorMod_7cf53 1 = .ok (.iload_n 1, 1) := by decide +kernel
theorem dJ9_floorMod_7cf53_2 : decode cJ9_floorMod_7cf53 2 = .ok (.irem, 1) := by decide +kernel
theorem dJ9_floorMod_7cf53_3 : decode cJ9_floorMod_7cf53 3 = .ok (.istore_n 2, 1) := by decide +kernel
theorem dJ9_floorMod_7cf53_4 : decode cJ9_floorMod_7cf53 4 = .ok (.iload_n 0, 1) := by decide +kernel
theorem dJ9_floorMod_7cf53_5 : decode cJ9_floorMod_7cf53 5 = .ok (.iload_n 1, 1) := by decide +kernel
theorem dJ9_floorMod_7cf53_6 : decode cJ9_floorMod_7cf53 6 = .ok (.ixor, 1) := by decide +kernel
theorem dJ9_floorMod_7cf53_7 : decode cJ9_floorMod_7cf53 7 = .ok (.ifCond .ge 11, 3) := by decide +kernel
theorem dJ9_floorMod_7cf53_10 : decode cJ9_floorMod_7cf53 10 = .ok (.iload_n 2, 1) := by decide +kernel
theorem dJ9_floorMod_7cf53_11 : decode cJ9_floorMod_7cf53 11 = .ok (.ifCond .eq 7, 3) := by decide +kernel
theorem dJ9_floorMod_7cf53_14 : decode cJ9_floorMod_7cf53 14 = .ok (.iload_n 2, 1) := by decide +kernel
theorem dJ9_floorMod_7cf53_15 : decode cJ9_floorMod_7cf53 15 = .ok (.iload_n 1, 1) := by decide +kernel
theorem dJ9_floorMod_7cf53_16 : decode cJ9_floorMod_7cf53 16 = .ok (.iadd, 1) := by decide +kernel
theorem dJ9_floorMod_7cf53_17 : decode cJ9_floorMod_7cf53 17 = .ok (.ireturn, 1) := by decide +kernel
theorem dJ9_floorMod_7cf53_18 : decode cJ9_floorMod_7cf53 18 = .ok (.iload_n 2, 1) := by decide +kernel
theorem dJ9_floorMod_7cf53_19 : decode cJ9_floorMod_7cf53 19 = .ok (.ireturn, 1) := by decide +kernel
def mm_fm (x z : Int32) : Int32 := if 0 ≤ x ^^^ z then x - x / z * z else if x - x / z * z = 0 then x - x / z * z else x - x / z * z + z
theorem mm_fmRow0 : (NativeRow.find? natives "java/lang/Math" "floorMod" "(II)I").isNone = true := by decide +kernel
theorem mm_fmRow (p : Program) : NativeRow.find? p.tables.natives yJ9_floorMod_7cf53.cls yJ9_floorMod_7cf53.name yJ9_floorMod_7cf53.desc = none := by
  cases p <;> exact Option.isNone_iff_eq_none.mp mm_fmRow0
def mm_fmS (a b : Int32) : Spec := { pre := .and (.code yJ9_floorMod_7cf53 cJ9_floorMod_7cf53 3 (some .int)) (.and (.count 2) (.and (.isInt (.arg 0)) (.and (.isInt (.arg 1)) (.and (.eq (.arg 0) (.int a)) (.eq (.arg 1) (.int b)))))), post := .and .returned (.eq .result (.int (mm_fm a b))), changes := some [] }
set_option maxHeartbeats 4000000 in
theorem mm_fmMeets (l : Launch) (a b : Int32) (hb0 : ¬ b = 0) : MeetsLoose l yJ9_floorMod_7cf53 (mm_fmS a b) := by
  refine MeetsLoose.of_body_ov (code := cJ9_floorMod_7cf53) (maxLocals := 3) (ret := some .int) mm_fmRow ?_ ?_
  · intro args s h
    simp only [mm_fmS, Cond.before_and, Bool.and_eq_true] at h
    exact h.1
  · intro p e s m args below meth c s₁ B
    have hpre := B.pre
    simp only [mm_fmS, Cond.before_and, Bool.and_eq_true] at hpre
    obtain ⟨a', b', rfl⟩ := Cond.two_ints hpre.2.1 hpre.2.2.1 hpre.2.2.2.1
    have ea : a' = a := by
      have q := hpre.2.2.2.2.1
      simpa [Cond.before, Cond.holds, Cond.value, Term.eval] using q
    have eb : b' = b := by
      have q := hpre.2.2.2.2.2
      simpa [Cond.before, Cond.holds, Cond.value, Term.eval] using q
    subst ea; subst eb
    have hloc : argsToLocals #[.int a', .int b'] 3 = #[.val (.int a'), .val (.int b'), .unset] := rfl
    have fin : ∀ r : Int32, (∀ fs, Steps p.tables e below (s₁.setTop (entryFrame m #[.int a', .int b'] 3)) (s₁.setFrames fs) ∨ handOver s₁ (some (.int r)) below ≠ some fs) → r = mm_fm a' b' →
        ∃ s₂ o, Steps p.tables e below (s₁.setTop (entryFrame m #[.int a', .int b'] 3)) s₂ ∧ s₂.status = .running ∧ Ended s₂ below o ∧
          (mm_fmS a' b').ensures #[.int a', .int b'] s o s₂ := by
      intro r hwalk hpost
      obtain ⟨fs, hfs⟩ := handOver_isSome (s := s₁) (some (.int r)) B.hears₁
      refine ⟨s₁.setFrames fs, .returned (some (.int r)), (hwalk fs).resolve_right (fun h => h hfs), B.here.running, B.ended hfs (by intro h; cases h), ?_, State.sameBut_nil.mpr ?_⟩
      · subst hpost
        simp [mm_fmS, Cond.after, Cond.holds, Cond.value, Term.eval]
      · rw [State.frames_setFrames _ B.cur₁, B.back]
    by_cases h1 : 0 ≤ a' ^^^ b'
    · have hr : a' - a' / b' * b' = mm_fm a' b' := by unfold mm_fm; rw [if_pos h1]
      refine fin (a' - a' / b' * b') (fun fs => ?_) hr
      by_cases hfs : handOver s₁ (some (.int (a' - a' / b' * b'))) below = some fs
      · left
        unfold entryFrame; rw [hloc]
        refine Steps.instrAtOv (c := _) (by simpa using B.here) ?_
        simp [jvm, wpRun, exec, B.here.top, B.exec, B.bytes, dJ9_floorMod_7cf53_0, storeLocals, storeSelf, setAt, Value.category]
        refine Steps.instrAtOv (c := _) (by simpa using B.here) ?_
        simp [jvm, wpRun, exec, B.here.top, B.exec, B.bytes, dJ9_floorMod_7cf53_1, storeLocals, storeSelf, setAt, Value.category]
        refine Steps.instrAtOv (c := _) (by simpa using B.here) ?_
        simp [jvm, wpRun, exec, B.here.top, B.exec, B.bytes, dJ9_floorMod_7cf53_2, storeLocals, storeSelf, setAt, Value.category, hb0]
        refine Steps.instrAtOv (c := _) (by simpa using B.here) ?_
        simp [jvm, wpRun, exec, B.here.top, B.exec, B.bytes, dJ9_floorMod_7cf53_3, storeLocals, storeSelf, setAt, Value.category]
        refine Steps.instrAtOv (c := _) (by simpa using B.here) ?_
        simp [jvm, wpRun, exec, B.here.top, B.exec, B.bytes, dJ9_floorMod_7cf53_4, storeLocals, storeSelf, setAt, Value.category]
        refine Steps.instrAtOv (c := _) (by simpa using B.here) ?_
        simp [jvm, wpRun, exec, B.here.top, B.exec, B.bytes, dJ9_floorMod_7cf53_5, storeLocals, storeSelf, setAt, Value.category]
        refine Steps.instrAtOv (c := _) (by simpa using B.here) ?_
        simp [jvm, wpRun, exec, B.here.top, B.exec, B.bytes, dJ9_floorMod_7cf53_6, storeLocals, storeSelf, setAt, Value.category]
        refine Steps.instrAtOv (c := _) (by simpa using B.here) ?_
        simp [jvm, wpRun, exec, B.here.top, B.exec, B.bytes, dJ9_floorMod_7cf53_7, storeLocals, storeSelf, setAt, Value.category, Op.ifCond.holds, h1]
        refine Steps.instrAtOv (c := _) (by simpa using B.here) ?_
        simp [jvm, wpRun, exec, B.here.top, B.exec, B.bytes, dJ9_floorMod_7cf53_18, storeLocals, storeSelf, setAt, Value.category]
        refine Steps.instrAtOv (c := _) (by simpa using B.here) ?_
        simp [jvm, wpRun, exec, B.here.top, B.exec, B.bytes, dJ9_floorMod_7cf53_19, storeLocals, storeSelf, setAt, Value.category, B.method₁, B.returns, narrow]
        intro acts
        rw [ret_to B.frames₁ B.method₁ B.notSynchronized rfl rfl hfs]
        exact Steps.refl _
      · exact Or.inr hfs
    · by_cases h2 : a' - a' / b' * b' = 0
      · have hr : 0 = mm_fm a' b' := by unfold mm_fm; rw [if_neg h1, if_pos h2, h2]
        refine fin 0 (fun fs => ?_) hr
        by_cases hfs : handOver s₁ (some (.int (0))) below = some fs
        · left
          unfold entryFrame; rw [hloc]
          refine Steps.instrAtOv (c := _) (by simpa using B.here) ?_
          simp [jvm, wpRun, exec, B.here.top, B.exec, B.bytes, dJ9_floorMod_7cf53_0, storeLocals, storeSelf, setAt, Value.category]
          refine Steps.instrAtOv (c := _) (by simpa using B.here) ?_
          simp [jvm, wpRun, exec, B.here.top, B.exec, B.bytes, dJ9_floorMod_7cf53_1, storeLocals, storeSelf, setAt, Value.category]
          refine Steps.instrAtOv (c := _) (by simpa using B.here) ?_
          simp [jvm, wpRun, exec, B.here.top, B.exec, B.bytes, dJ9_floorMod_7cf53_2, storeLocals, storeSelf, setAt, Value.category, hb0]
          refine Steps.instrAtOv (c := _) (by simpa using B.here) ?_
          simp [jvm, wpRun, exec, B.here.top, B.exec, B.bytes, dJ9_floorMod_7cf53_3, storeLocals, storeSelf, setAt, Value.category]
          refine Steps.instrAtOv (c := _) (by simpa using B.here) ?_
          simp [jvm, wpRun, exec, B.here.top, B.exec, B.bytes, dJ9_floorMod_7cf53_4, storeLocals, storeSelf, setAt, Value.category]
          refine Steps.instrAtOv (c := _) (by simpa using B.here) ?_
          simp [jvm, wpRun, exec, B.here.top, B.exec, B.bytes, dJ9_floorMod_7cf53_5, storeLocals, storeSelf, setAt, Value.category]
          refine Steps.instrAtOv (c := _) (by simpa using B.here) ?_
          simp [jvm, wpRun, exec, B.here.top, B.exec, B.bytes, dJ9_floorMod_7cf53_6, storeLocals, storeSelf, setAt, Value.category]
          refine Steps.instrAtOv (c := _) (by simpa using B.here) ?_
          simp [jvm, wpRun, exec, B.here.top, B.exec, B.bytes, dJ9_floorMod_7cf53_7, storeLocals, storeSelf, setAt, Value.category, Op.ifCond.holds, h1]
          refine Steps.instrAtOv (c := _) (by simpa using B.here) ?_
          simp [jvm, wpRun, exec, B.here.top, B.exec, B.bytes, dJ9_floorMod_7cf53_10, storeLocals, storeSelf, setAt, Value.category]
          refine Steps.instrAtOv (c := _) (by simpa using B.here) ?_
          simp [jvm, wpRun, exec, B.here.top, B.exec, B.bytes, dJ9_floorMod_7cf53_11, storeLocals, storeSelf, setAt, Value.category, Op.ifCond.holds, h2]
          refine Steps.instrAtOv (c := _) (by simpa using B.here) ?_
          simp [jvm, wpRun, exec, B.here.top, B.exec, B.bytes, dJ9_floorMod_7cf53_18, storeLocals, storeSelf, setAt, Value.category]
          refine Steps.instrAtOv (c := _) (by simpa using B.here) ?_
          simp [jvm, wpRun, exec, B.here.top, B.exec, B.bytes, dJ9_floorMod_7cf53_19, storeLocals, storeSelf, setAt, Value.category, B.method₁, B.returns, narrow]
          intro acts
          rw [ret_to B.frames₁ B.method₁ B.notSynchronized rfl rfl hfs]
          exact Steps.refl _
        · exact Or.inr hfs
      · have hr : a' - a' / b' * b' + b' = mm_fm a' b' := by unfold mm_fm; rw [if_neg h1, if_neg h2]
        refine fin (a' - a' / b' * b' + b') (fun fs => ?_) hr
        by_cases hfs : handOver s₁ (some (.int (a' - a' / b' * b' + b'))) below = some fs
        · left
          unfold entryFrame; rw [hloc]
          refine Steps.instrAtOv (c := _) (by simpa using B.here) ?_
          simp [jvm, wpRun, exec, B.here.top, B.exec, B.bytes, dJ9_floorMod_7cf53_0, storeLocals, storeSelf, setAt, Value.category]
          refine Steps.instrAtOv (c := _) (by simpa using B.here) ?_
          simp [jvm, wpRun, exec, B.here.top, B.exec, B.bytes, dJ9_floorMod_7cf53_1, storeLocals, storeSelf, setAt, Value.category]
          refine Steps.instrAtOv (c := _) (by simpa using B.here) ?_
          simp [jvm, wpRun, exec, B.here.top, B.exec, B.bytes, dJ9_floorMod_7cf53_2, storeLocals, storeSelf, setAt, Value.category, hb0]
          refine Steps.instrAtOv (c := _) (by simpa using B.here) ?_
          simp [jvm, wpRun, exec, B.here.top, B.exec, B.bytes, dJ9_floorMod_7cf53_3, storeLocals, storeSelf, setAt, Value.category]
          refine Steps.instrAtOv (c := _) (by simpa using B.here) ?_
          simp [jvm, wpRun, exec, B.here.top, B.exec, B.bytes, dJ9_floorMod_7cf53_4, storeLocals, storeSelf, setAt, Value.category]
          refine Steps.instrAtOv (c := _) (by simpa using B.here) ?_
          simp [jvm, wpRun, exec, B.here.top, B.exec, B.bytes, dJ9_floorMod_7cf53_5, storeLocals, storeSelf, setAt, Value.category]
          refine Steps.instrAtOv (c := _) (by simpa using B.here) ?_
          simp [jvm, wpRun, exec, B.here.top, B.exec, B.bytes, dJ9_floorMod_7cf53_6, storeLocals, storeSelf, setAt, Value.category]
          refine Steps.instrAtOv (c := _) (by simpa using B.here) ?_
          simp [jvm, wpRun, exec, B.here.top, B.exec, B.bytes, dJ9_floorMod_7cf53_7, storeLocals, storeSelf, setAt, Value.category, Op.ifCond.holds, h1]
          refine Steps.instrAtOv (c := _) (by simpa using B.here) ?_
          simp [jvm, wpRun, exec, B.here.top, B.exec, B.bytes, dJ9_floorMod_7cf53_10, storeLocals, storeSelf, setAt, Value.category]
          refine Steps.instrAtOv (c := _) (by simpa using B.here) ?_
          simp [jvm, wpRun, exec, B.here.top, B.exec, B.bytes, dJ9_floorMod_7cf53_11, storeLocals, storeSelf, setAt, Value.category, Op.ifCond.holds, h2]
          refine Steps.instrAtOv (c := _) (by simpa using B.here) ?_
          simp [jvm, wpRun, exec, B.here.top, B.exec, B.bytes, dJ9_floorMod_7cf53_14, storeLocals, storeSelf, setAt, Value.category]
          refine Steps.instrAtOv (c := _) (by simpa using B.here) ?_
          simp [jvm, wpRun, exec, B.here.top, B.exec, B.bytes, dJ9_floorMod_7cf53_15, storeLocals, storeSelf, setAt, Value.category]
          refine Steps.instrAtOv (c := _) (by simpa using B.here) ?_
          simp [jvm, wpRun, exec, B.here.top, B.exec, B.bytes, dJ9_floorMod_7cf53_16, storeLocals, storeSelf, setAt, Value.category]
          refine Steps.instrAtOv (c := _) (by simpa using B.here) ?_
          simp [jvm, wpRun, exec, B.here.top, B.exec, B.bytes, dJ9_floorMod_7cf53_17, storeLocals, storeSelf, setAt, Value.category, B.method₁, B.returns, narrow]
          intro acts
          rw [ret_to B.frames₁ B.method₁ B.notSynchronized rfl rfl hfs]
          exact Steps.refl _
        · exact Or.inr hfs

section MMM
variable {d : Nat} {y : MethodName} {cc : ByteArray} {nL : Nat} {ret : Option FieldType} {oz : String ⊕ Option Value} {hz : MH} {V : Nat → List (Nat × Value) → List Value → MH → Prop} {pc : Nat} {lv lv' : List (Nat × Value)} {st stk : List Value} {h h1 : MH} {r w : Option Nat}
def mxI (x z : Int32) : Int32 := if x < z then z else x
def mnI (x z : Int32) : Int32 := if z < x then z else x
def mxL (x z : Int64) : Int64 := if z < x then x else z
def mnL (x z : Int64) : Int64 := if z < x then z else x
theorem mm_mmax (C : mm_C d y cc nL ret oz hz V) {idx : Nat} {x z : Int32} (hw1 : Cond.methodLink y.cls idx Lib.Math.max.name ∈ lw_good) (hw2 : Cond.static Lib.Math.max.name ∈ lw_good) (hw3 : Cond.initialized "java/lang/Math" ∈ lw_good) (hw4 : Cond.code Lib.Math.max.name Lib.Math.max.code 2 (some .int) ∈ lw_good) (hdd : 1 ≤ d) (hst : (st.map fun v => v.category).sum ≤ 8) (hd : decode cc pc = .ok (.invokestatic idx, 3)) (kk : V (pc + 3) lv (.int (mxI x z) :: st) h) : V pc lv (.int z :: .int x :: st) h := by
  obtain ⟨p, l, e, s, m, args, below, meth, c, h0, G, ⟨hsl, hx, hb, hml, hr, hlk, hown, hnm, htab⟩, hts, hSt, rfl⟩ := C
  intro H locs ls hls a1 a2 a3 a4
  have hcat : ((st.map (mm_v G)).map fun v => v.category) = st.map fun v => v.category := by rw [List.map_map]; apply List.map_congr_left; intro v _; exact mm_v_cat G v
  exact va_mmax hx hb (by rw [hls.1, hml]) hown (hts _ hw1) (hts _ hw2) (hts _ hw3) (hts _ hw4) (by show 1 ≤ d; exact hdd) (by rw [hcat]; show _ + _ ≤ 100 * d; omega) (by show _ ≤ mm_capC - h0.2.1; have := a1.1; omega) (by show _ ≤ mm_capS - h0.2.2; have := a1.1; omega) hd (kk H locs ls hls a1 a2 a3 a4)
theorem mm_mmin (C : mm_C d y cc nL ret oz hz V) {idx : Nat} {x z : Int32} (hw1 : Cond.methodLink y.cls idx Lib.Math.min.name ∈ lw_good) (hw2 : Cond.static Lib.Math.min.name ∈ lw_good) (hw3 : Cond.initialized "java/lang/Math" ∈ lw_good) (hw4 : Cond.code Lib.Math.min.name Lib.Math.min.code 2 (some .int) ∈ lw_good) (hdd : 1 ≤ d) (hst : (st.map fun v => v.category).sum ≤ 8) (hd : decode cc pc = .ok (.invokestatic idx, 3)) (kk : V (pc + 3) lv (.int (mnI x z) :: st) h) : V pc lv (.int z :: .int x :: st) h := by
  obtain ⟨p, l, e, s, m, args, below, meth, c, h0, G, ⟨hsl, hx, hb, hml, hr, hlk, hown, hnm, htab⟩, hts, hSt, rfl⟩ := C
  intro H locs ls hls a1 a2 a3 a4
  have hcat : ((st.map (mm_v G)).map fun v => v.category) = st.map fun v => v.category := by rw [List.map_map]; apply List.map_congr_left; intro v _; exact mm_v_cat G v
  exact va_mmin hx hb (by rw [hls.1, hml]) hown (hts _ hw1) (hts _ hw2) (hts _ hw3) (hts _ hw4) (by show 1 ≤ d; exact hdd) (by rw [hcat]; show _ + _ ≤ 100 * d; omega) (by show _ ≤ mm_capC - h0.2.1; have := a1.1; omega) (by show _ ≤ mm_capS - h0.2.2; have := a1.1; omega) hd (kk H locs ls hls a1 a2 a3 a4)
theorem mm_mmaxl (C : mm_C d y cc nL ret oz hz V) {idx : Nat} {x z : Int64} (hw1 : Cond.methodLink y.cls idx Lib.MathLoose.max_long.x ∈ lw_good) (hw2 : Cond.static Lib.MathLoose.max_long.x ∈ lw_good) (hw3 : Cond.initialized "java/lang/Math" ∈ lw_good) (hw4 : Cond.code Lib.MathLoose.max_long.x Lib.MathLoose.max_long.code 4 (some .long) ∈ lw_good) (hdd : 1 ≤ d) (hst : (st.map fun v => v.category).sum ≤ 8) (hd : decode cc pc = .ok (.invokestatic idx, 3)) (kk : V (pc + 3) lv (.long (mxL x z) :: st) h) : V pc lv (.long z :: .long x :: st) h := by
  obtain ⟨p, l, e, s, m, args, below, meth, c, h0, G, ⟨hsl, hx, hb, hml, hr, hlk, hown, hnm, htab⟩, hts, hSt, rfl⟩ := C
  intro H locs ls hls a1 a2 a3 a4
  have hcat : ((st.map (mm_v G)).map fun v => v.category) = st.map fun v => v.category := by rw [List.map_map]; apply List.map_congr_left; intro v _; exact mm_v_cat G v
  exact va_mmax_long hx hb (by rw [hls.1, hml]) hown (hts _ hw1) (hts _ hw2) (hts _ hw3) (hts _ hw4) (by show 1 ≤ d; exact hdd) (by rw [hcat]; show _ + _ ≤ 100 * d; omega) (by show _ ≤ mm_capC - h0.2.1; have := a1.1; omega) (by show _ ≤ mm_capS - h0.2.2; have := a1.1; omega) hd (kk H locs ls hls a1 a2 a3 a4)
theorem mm_mminl (C : mm_C d y cc nL ret oz hz V) {idx : Nat} {x z : Int64} (hw1 : Cond.methodLink y.cls idx Lib.MathLoose.min_long.x ∈ lw_good) (hw2 : Cond.static Lib.MathLoose.min_long.x ∈ lw_good) (hw3 : Cond.initialized "java/lang/Math" ∈ lw_good) (hw4 : Cond.code Lib.MathLoose.min_long.x Lib.MathLoose.min_long.code 4 (some .long) ∈ lw_good) (hdd : 1 ≤ d) (hst : (st.map fun v => v.category).sum ≤ 8) (hd : decode cc pc = .ok (.invokestatic idx, 3)) (kk : V (pc + 3) lv (.long (mnL x z) :: st) h) : V pc lv (.long z :: .long x :: st) h := by
  obtain ⟨p, l, e, s, m, args, below, meth, c, h0, G, ⟨hsl, hx, hb, hml, hr, hlk, hown, hnm, htab⟩, hts, hSt, rfl⟩ := C
  intro H locs ls hls a1 a2 a3 a4
  have hcat : ((st.map (mm_v G)).map fun v => v.category) = st.map fun v => v.category := by rw [List.map_map]; apply List.map_congr_left; intro v _; exact mm_v_cat G v
  exact va_mmin_long hx hb (by rw [hls.1, hml]) hown (hts _ hw1) (hts _ hw2) (hts _ hw3) (hts _ hw4) (by show 1 ≤ d; exact hdd) (by rw [hcat]; show _ + _ ≤ 100 * d; omega) (by show _ ≤ mm_capC - h0.2.1; have := a1.1; omega) (by show _ ≤ mm_capS - h0.2.2; have := a1.1; omega) hd (kk H locs ls hls a1 a2 a3 a4)
theorem mm_fmod (C : mm_C d y cc nL ret oz hz V) {idx : Nat} {x z : Int32} (hz0 : ¬ z = 0) (hw1 : Cond.methodLink y.cls idx yJ9_floorMod_7cf53 ∈ lw_good) (hw2 : Cond.static yJ9_floorMod_7cf53 ∈ lw_good) (hw3 : Cond.initialized RJ9 ∈ lw_good) (hw4 : Cond.code yJ9_floorMod_7cf53 cJ9_floorMod_7cf53 3 (some .int) ∈ lw_good) (hdd : 1 ≤ d) (hst : (st.map fun v => v.category).sum ≤ 8) (hd : decode cc pc = .ok (.invokestatic idx, 3)) (kk : V (pc + 3) lv (.int (mm_fm x z) :: st) h) : V pc lv (.int z :: .int x :: st) h := by
  obtain ⟨p, l, e, s, m, args, below, meth, c, h0, G, ⟨hsl, hx, hb, hml, hr, hlk, hown, hnm, htab⟩, hts, hSt, rfl⟩ := C
  intro H locs ls hls a1 a2 a3 a4
  have hcat : ((st.map (mm_v G)).map fun v => v.category) = st.map fun v => v.category := by rw [List.map_map]; apply List.map_congr_left; intro v _; exact mm_v_cat G v
  have k9 := kk H locs ls hls a1 a2 a3 a4
  intro T hT X
  obtain ⟨v, vm', X', ⟨first, t, hpost⟩, hstep⟩ := X.staticByContractHK hx hown (hts _ hw1) (hts _ hw2) (hts _ hw3) (hts _ hw4) (by decide) (mm_fmMeets l x z hz0) rfl rfl rfl rfl
    (fun args' first o s₂ h => by
      simp only [mm_fmS, Cond.after, Cond.holds_and, Bool.and_eq_true] at h
      cases o with
      | returned r => exact ⟨r, rfl⟩
      | threw y9 => simp [Cond.holds, Cond.value] at h)
    (g := F0 m pc ls (.int z :: .int x :: st.map (mm_v G))) rfl (by show ls.size = c.maxLocals; rw [hls.1, hml]) (argsL := [.int x, .int z]) (rest := st.map (mm_v G))
    (fun sig hs => by
      have h9 : parseMethodDescriptor yJ9_floorMod_7cf53.desc = some { parameters := [.int, .int], returnType := some .int } := by decide +kernel
      rw [h9] at hs; cases hs; rfl) rfl (by rw [hb]; exact hd)
    (fun vm1 hW1 => by
      have hc9 : (Cond.code yJ9_floorMod_7cf53 cJ9_floorMod_7cf53 3 (some .int)).before ([Value.int x, Value.int z] : List Value).toArray (T.setVm vm1) = true := pay_in hts lw_goodIn _ hw4 _ _ hW1
      simp only [mm_fmS, Cond.before_and, Bool.and_eq_true]
      refine ⟨hc9, ?_, ?_, ?_, ?_, ?_⟩ <;> simp [Cond.before, Cond.holds, Cond.value, Term.eval])
    (by show 0 + 1 ≤ d; omega) (by rw [hcat]; show 2 * 0 + _ + (3 + 11) + 0 ≤ 100 * d; omega) (by show _ + 0 ≤ mm_capC - h0.2.1; have := a1.1; omega) (by show _ + 0 ≤ mm_capS - h0.2.2; have := a1.1; omega)
  have hv : v = some (.int (mm_fm x z)) := by
    simp only [mm_fmS, Cond.after, Cond.holds_and, Bool.and_eq_true] at hpost
    have h2 := hpost.2
    cases v with
    | none => simp [Cond.holds, Cond.value, Term.eval] at h2
    | some v9 => cases v9 <;> simp [Cond.holds, Cond.value, Term.eval] at h2; rw [h2]
  subst hv
  obtain ⟨t2, b1, b2⟩ := k9 (T.setVm vm') hT X'
  exact ⟨t2, hstep t2 b1, b2⟩
end MMM
