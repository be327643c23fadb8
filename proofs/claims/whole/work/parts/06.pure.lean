section MMP
variable {d : Nat} {y : MethodName} {cc : ByteArray} {nL : Nat} {ret : Option FieldType} {oz : String ⊕ Option Value} {hz : MH} {V : Nat → List (Nat × Value) → List Value → MH → Prop} {pc : Nat} {lv lv' : List (Nat × Value)} {st : List Value} {h : MH}
theorem mm_iadd (C : mm_C d y cc nL ret oz hz V) {x z : Int32} (hd : decode cc pc = .ok (.iadd, 1)) (k : V (pc + 1) lv (.int (x + z) :: st) h) : V pc lv (.int z :: .int x :: st) h := by
  obtain ⟨p, l, e, s, m, args, below, meth, c, h0, G, ⟨hsl, hx, hb, hml, hr, hlk, hown, hnm, htab⟩, hts, hS, rfl⟩ := C
  intro H locs ls hls a1 a2 a3 a4
  exact lv_iadd hx hb hd (k H locs ls hls a1 a2 a3 a4)
theorem mm_isub (C : mm_C d y cc nL ret oz hz V) {x z : Int32} (hd : decode cc pc = .ok (.isub, 1)) (k : V (pc + 1) lv (.int (x - z) :: st) h) : V pc lv (.int z :: .int x :: st) h := by
  obtain ⟨p, l, e, s, m, args, below, meth, c, h0, G, ⟨hsl, hx, hb, hml, hr, hlk, hown, hnm, htab⟩, hts, hS, rfl⟩ := C
  intro H locs ls hls a1 a2 a3 a4
  exact lv_isub hx hb hd (k H locs ls hls a1 a2 a3 a4)
theorem mm_imul (C : mm_C d y cc nL ret oz hz V) {x z : Int32} (hd : decode cc pc = .ok (.imul, 1)) (k : V (pc + 1) lv (.int (x * z) :: st) h) : V pc lv (.int z :: .int x :: st) h := by
  obtain ⟨p, l, e, s, m, args, below, meth, c, h0, G, ⟨hsl, hx, hb, hml, hr, hlk, hown, hnm, htab⟩, hts, hS, rfl⟩ := C
  intro H locs ls hls a1 a2 a3 a4
  exact lv_imul hx hb hd (k H locs ls hls a1 a2 a3 a4)
theorem mm_iand (C : mm_C d y cc nL ret oz hz V) {x z : Int32} (hd : decode cc pc = .ok (.iand, 1)) (k : V (pc + 1) lv (.int (x &&& z) :: st) h) : V pc lv (.int z :: .int x :: st) h := by
  obtain ⟨p, l, e, s, m, args, below, meth, c, h0, G, ⟨hsl, hx, hb, hml, hr, hlk, hown, hnm, htab⟩, hts, hS, rfl⟩ := C
  intro H locs ls hls a1 a2 a3 a4
  exact lv_iand hx hb hd (k H locs ls hls a1 a2 a3 a4)
theorem mm_ior (C : mm_C d y cc nL ret oz hz V) {x z : Int32} (hd : decode cc pc = .ok (.ior, 1)) (k : V (pc + 1) lv (.int (x ||| z) :: st) h) : V pc lv (.int z :: .int x :: st) h := by
  obtain ⟨p, l, e, s, m, args, below, meth, c, h0, G, ⟨hsl, hx, hb, hml, hr, hlk, hown, hnm, htab⟩, hts, hS, rfl⟩ := C
  intro H locs ls hls a1 a2 a3 a4
  exact lv_ior hx hb hd (k H locs ls hls a1 a2 a3 a4)
theorem mm_ixor (C : mm_C d y cc nL ret oz hz V) {x z : Int32} (hd : decode cc pc = .ok (.ixor, 1)) (k : V (pc + 1) lv (.int (x ^^^ z) :: st) h) : V pc lv (.int z :: .int x :: st) h := by
  obtain ⟨p, l, e, s, m, args, below, meth, c, h0, G, ⟨hsl, hx, hb, hml, hr, hlk, hown, hnm, htab⟩, hts, hS, rfl⟩ := C
  intro H locs ls hls a1 a2 a3 a4
  exact lv_ixor hx hb hd (k H locs ls hls a1 a2 a3 a4)
theorem mm_ishl (C : mm_C d y cc nL ret oz hz V) {x z : Int32} (hd : decode cc pc = .ok (.ishl, 1)) (k : V (pc + 1) lv (.int (x <<< (z &&& 31)) :: st) h) : V pc lv (.int z :: .int x :: st) h := by
  obtain ⟨p, l, e, s, m, args, below, meth, c, h0, G, ⟨hsl, hx, hb, hml, hr, hlk, hown, hnm, htab⟩, hts, hS, rfl⟩ := C
  intro H locs ls hls a1 a2 a3 a4
  exact lv_ishl hx hb hd (k H locs ls hls a1 a2 a3 a4)
theorem mm_ishr (C : mm_C d y cc nL ret oz hz V) {x z : Int32} (hd : decode cc pc = .ok (.ishr, 1)) (k : V (pc + 1) lv (.int (x >>> (z &&& 31)) :: st) h) : V pc lv (.int z :: .int x :: st) h := by
  obtain ⟨p, l, e, s, m, args, below, meth, c, h0, G, ⟨hsl, hx, hb, hml, hr, hlk, hown, hnm, htab⟩, hts, hS, rfl⟩ := C
  intro H locs ls hls a1 a2 a3 a4
  exact lv_ishr hx hb hd (k H locs ls hls a1 a2 a3 a4)
theorem mm_iushr (C : mm_C d y cc nL ret oz hz V) {x z : Int32} (hd : decode cc pc = .ok (.iushr, 1)) (k : V (pc + 1) lv (.int ((x.toUInt32 >>> (z.toUInt32 &&& Int32.toUInt32 31)).toInt32) :: st) h) : V pc lv (.int z :: .int x :: st) h := by
  obtain ⟨p, l, e, s, m, args, below, meth, c, h0, G, ⟨hsl, hx, hb, hml, hr, hlk, hown, hnm, htab⟩, hts, hS, rfl⟩ := C
  intro H locs ls hls a1 a2 a3 a4
  exact lv_iushr hx hb hd rfl (k H locs ls hls a1 a2 a3 a4)
theorem mm_idiv (C : mm_C d y cc nL ret oz hz V) {x z : Int32} (hd : decode cc pc = .ok (.idiv, 1)) (hne : ¬ z = 0) (k : V (pc + 1) lv (.int (x / z) :: st) h) : V pc lv (.int z :: .int x :: st) h := by
  obtain ⟨p, l, e, s, m, args, below, meth, c, h0, G, ⟨hsl, hx, hb, hml, hr, hlk, hown, hnm, htab⟩, hts, hS, rfl⟩ := C
  intro H locs ls hls a1 a2 a3 a4
  exact lv_idiv hx hb hd hne (k H locs ls hls a1 a2 a3 a4)
theorem mm_irem (C : mm_C d y cc nL ret oz hz V) {x z : Int32} (hd : decode cc pc = .ok (.irem, 1)) (hne : ¬ z = 0) (k : V (pc + 1) lv (.int (x - x / z * z) :: st) h) : V pc lv (.int z :: .int x :: st) h := by
  obtain ⟨p, l, e, s, m, args, below, meth, c, h0, G, ⟨hsl, hx, hb, hml, hr, hlk, hown, hnm, htab⟩, hts, hS, rfl⟩ := C
  intro H locs ls hls a1 a2 a3 a4
  exact lv_irem hx hb hd hne (k H locs ls hls a1 a2 a3 a4)
theorem mm_ineg (C : mm_C d y cc nL ret oz hz V) {x : Int32} (hd : decode cc pc = .ok (.ineg, 1)) (k : V (pc + 1) lv (.int (-x) :: st) h) : V pc lv (.int x :: st) h := by
  obtain ⟨p, l, e, s, m, args, below, meth, c, h0, G, ⟨hsl, hx, hb, hml, hr, hlk, hown, hnm, htab⟩, hts, hS, rfl⟩ := C
  intro H locs ls hls a1 a2 a3 a4
  exact lv_ineg hx hb hd (k H locs ls hls a1 a2 a3 a4)
theorem mm_ladd (C : mm_C d y cc nL ret oz hz V) {x z : Int64} (hd : decode cc pc = .ok (.ladd, 1)) (k : V (pc + 1) lv (.long (x + z) :: st) h) : V pc lv (.long z :: .long x :: st) h := by
  obtain ⟨p, l, e, s, m, args, below, meth, c, h0, G, ⟨hsl, hx, hb, hml, hr, hlk, hown, hnm, htab⟩, hts, hS, rfl⟩ := C
  intro H locs ls hls a1 a2 a3 a4
  exact lv_ladd hx hb hd (k H locs ls hls a1 a2 a3 a4)
theorem mm_lsub (C : mm_C d y cc nL ret oz hz V) {x z : Int64} (hd : decode cc pc = .ok (.lsub, 1)) (k : V (pc + 1) lv (.long (x - z) :: st) h) : V pc lv (.long z :: .long x :: st) h := by
  obtain ⟨p, l, e, s, m, args, below, meth, c, h0, G, ⟨hsl, hx, hb, hml, hr, hlk, hown, hnm, htab⟩, hts, hS, rfl⟩ := C
  intro H locs ls hls a1 a2 a3 a4
  exact lv_lsub hx hb hd (k H locs ls hls a1 a2 a3 a4)
theorem mm_lmul (C : mm_C d y cc nL ret oz hz V) {x z : Int64} (hd : decode cc pc = .ok (.lmul, 1)) (k : V (pc + 1) lv (.long (x * z) :: st) h) : V pc lv (.long z :: .long x :: st) h := by
  obtain ⟨p, l, e, s, m, args, below, meth, c, h0, G, ⟨hsl, hx, hb, hml, hr, hlk, hown, hnm, htab⟩, hts, hS, rfl⟩ := C
  intro H locs ls hls a1 a2 a3 a4
  exact lv_lmul hx hb hd (k H locs ls hls a1 a2 a3 a4)
theorem mm_land (C : mm_C d y cc nL ret oz hz V) {x z : Int64} (hd : decode cc pc = .ok (.land, 1)) (k : V (pc + 1) lv (.long (x &&& z) :: st) h) : V pc lv (.long z :: .long x :: st) h := by
  obtain ⟨p, l, e, s, m, args, below, meth, c, h0, G, ⟨hsl, hx, hb, hml, hr, hlk, hown, hnm, htab⟩, hts, hS, rfl⟩ := C
  intro H locs ls hls a1 a2 a3 a4
  exact lv_land hx hb hd (k H locs ls hls a1 a2 a3 a4)
theorem mm_lor (C : mm_C d y cc nL ret oz hz V) {x z : Int64} (hd : decode cc pc = .ok (.lor, 1)) (k : V (pc + 1) lv (.long (x ||| z) :: st) h) : V pc lv (.long z :: .long x :: st) h := by
  obtain ⟨p, l, e, s, m, args, below, meth, c, h0, G, ⟨hsl, hx, hb, hml, hr, hlk, hown, hnm, htab⟩, hts, hS, rfl⟩ := C
  intro H locs ls hls a1 a2 a3 a4
  exact lv_lor hx hb hd (k H locs ls hls a1 a2 a3 a4)
theorem mm_ldiv (C : mm_C d y cc nL ret oz hz V) {x z : Int64} (hd : decode cc pc = .ok (.ldiv, 1)) (hne : ¬ z = 0) (k : V (pc + 1) lv (.long (x / z) :: st) h) : V pc lv (.long z :: .long x :: st) h := by
  obtain ⟨p, l, e, s, m, args, below, meth, c, h0, G, ⟨hsl, hx, hb, hml, hr, hlk, hown, hnm, htab⟩, hts, hS, rfl⟩ := C
  intro H locs ls hls a1 a2 a3 a4
  exact lv_ldiv hx hb hd hne (k H locs ls hls a1 a2 a3 a4)
theorem mm_lrem (C : mm_C d y cc nL ret oz hz V) {x z : Int64} (hd : decode cc pc = .ok (.lrem, 1)) (hne : ¬ z = 0) (k : V (pc + 1) lv (.long (x - x / z * z) :: st) h) : V pc lv (.long z :: .long x :: st) h := by
  obtain ⟨p, l, e, s, m, args, below, meth, c, h0, G, ⟨hsl, hx, hb, hml, hr, hlk, hown, hnm, htab⟩, hts, hS, rfl⟩ := C
  intro H locs ls hls a1 a2 a3 a4
  exact lv_lrem hx hb hd hne (k H locs ls hls a1 a2 a3 a4)
theorem mm_lshl (C : mm_C d y cc nL ret oz hz V) {x : Int64} {z : Int32} (hd : decode cc pc = .ok (.lshl, 1)) (k : V (pc + 1) lv (.long (x <<< (z.toInt64 &&& 63)) :: st) h) : V pc lv (.int z :: .long x :: st) h := by
  obtain ⟨p, l, e, s, m, args, below, meth, c, h0, G, ⟨hsl, hx, hb, hml, hr, hlk, hown, hnm, htab⟩, hts, hS, rfl⟩ := C
  intro H locs ls hls a1 a2 a3 a4
  exact lv_lshl hx hb hd rfl (k H locs ls hls a1 a2 a3 a4)
theorem mm_lshr (C : mm_C d y cc nL ret oz hz V) {x : Int64} {z : Int32} (hd : decode cc pc = .ok (.lshr, 1)) (k : V (pc + 1) lv (.long (x >>> (z.toInt64 &&& 63)) :: st) h) : V pc lv (.int z :: .long x :: st) h := by
  obtain ⟨p, l, e, s, m, args, below, meth, c, h0, G, ⟨hsl, hx, hb, hml, hr, hlk, hown, hnm, htab⟩, hts, hS, rfl⟩ := C
  intro H locs ls hls a1 a2 a3 a4
  exact lv_lshr hx hb hd rfl (k H locs ls hls a1 a2 a3 a4)
theorem mm_lcmp (C : mm_C d y cc nL ret oz hz V) {x z : Int64} (hd : decode cc pc = .ok (.lcmp, 1)) (k : V (pc + 1) lv (.int (lg_cmp x z) :: st) h) : V pc lv (.long z :: .long x :: st) h := by
  obtain ⟨p, l, e, s, m, args, below, meth, c, h0, G, ⟨hsl, hx, hb, hml, hr, hlk, hown, hnm, htab⟩, hts, hS, rfl⟩ := C
  intro H locs ls hls a1 a2 a3 a4
  exact W.lcmp hx hb hd (k H locs ls hls a1 a2 a3 a4)
theorem mm_i2l (C : mm_C d y cc nL ret oz hz V) {x : Int32} (hd : decode cc pc = .ok (.i2l, 1)) (k : V (pc + 1) lv (.long x.toInt64 :: st) h) : V pc lv (.int x :: st) h := by
  obtain ⟨p, l, e, s, m, args, below, meth, c, h0, G, ⟨hsl, hx, hb, hml, hr, hlk, hown, hnm, htab⟩, hts, hS, rfl⟩ := C
  intro H locs ls hls a1 a2 a3 a4
  exact lv_i2l hx hb hd rfl (k H locs ls hls a1 a2 a3 a4)
theorem mm_l2i (C : mm_C d y cc nL ret oz hz V) {x : Int64} (hd : decode cc pc = .ok (.l2i, 1)) (k : V (pc + 1) lv (.int x.toInt32 :: st) h) : V pc lv (.long x :: st) h := by
  obtain ⟨p, l, e, s, m, args, below, meth, c, h0, G, ⟨hsl, hx, hb, hml, hr, hlk, hown, hnm, htab⟩, hts, hS, rfl⟩ := C
  intro H locs ls hls a1 a2 a3 a4
  exact lv_l2i hx hb hd rfl (k H locs ls hls a1 a2 a3 a4)
theorem mm_i2b (C : mm_C d y cc nL ret oz hz V) {x : Int32} (hd : decode cc pc = .ok (.i2b, 1)) (k : V (pc + 1) lv (.int x.toInt8.toInt32 :: st) h) : V pc lv (.int x :: st) h := by
  obtain ⟨p, l, e, s, m, args, below, meth, c, h0, G, ⟨hsl, hx, hb, hml, hr, hlk, hown, hnm, htab⟩, hts, hS, rfl⟩ := C
  intro H locs ls hls a1 a2 a3 a4
  exact lv_i2b hx hb hd rfl (k H locs ls hls a1 a2 a3 a4)
theorem mm_i2s (C : mm_C d y cc nL ret oz hz V) {x : Int32} (hd : decode cc pc = .ok (.i2s, 1)) (k : V (pc + 1) lv (.int x.toInt16.toInt32 :: st) h) : V pc lv (.int x :: st) h := by
  obtain ⟨p, l, e, s, m, args, below, meth, c, h0, G, ⟨hsl, hx, hb, hml, hr, hlk, hown, hnm, htab⟩, hts, hS, rfl⟩ := C
  intro H locs ls hls a1 a2 a3 a4
  exact lv_i2s hx hb hd rfl (k H locs ls hls a1 a2 a3 a4)
theorem mm_i2c (C : mm_C d y cc nL ret oz hz V) {x : Int32} (hd : decode cc pc = .ok (.i2c, 1)) (k : V (pc + 1) lv (.int (x.toUInt32 % 65536).toInt32 :: st) h) : V pc lv (.int x :: st) h := by
  obtain ⟨p, l, e, s, m, args, below, meth, c, h0, G, ⟨hsl, hx, hb, hml, hr, hlk, hown, hnm, htab⟩, hts, hS, rfl⟩ := C
  intro H locs ls hls a1 a2 a3 a4
  exact lv_i2c hx hb hd rfl (k H locs ls hls a1 a2 a3 a4)
theorem mm_iconst (C : mm_C d y cc nL ret oz hz V) {n : Int} {v : Int32} (hd : decode cc pc = .ok (.iconst n, 1)) (hv : Int32.ofInt n = v) (k : V (pc + 1) lv (.int v :: st) h) : V pc lv (st) h := by
  obtain ⟨p, l, e, s, m, args, below, meth, c, h0, G, ⟨hsl, hx, hb, hml, hr, hlk, hown, hnm, htab⟩, hts, hS, rfl⟩ := C
  intro H locs ls hls a1 a2 a3 a4
  exact lv_iconst hx hb hd hv (k H locs ls hls a1 a2 a3 a4)
theorem mm_bipush (C : mm_C d y cc nL ret oz hz V) {n : Int} {v : Int32} (hd : decode cc pc = .ok (.bipush n, 2)) (hv : (Int8.ofInt n).toInt32 = v) (k : V (pc + 2) lv (.int v :: st) h) : V pc lv (st) h := by
  obtain ⟨p, l, e, s, m, args, below, meth, c, h0, G, ⟨hsl, hx, hb, hml, hr, hlk, hown, hnm, htab⟩, hts, hS, rfl⟩ := C
  intro H locs ls hls a1 a2 a3 a4
  exact lv_bipush hx hb hd hv (k H locs ls hls a1 a2 a3 a4)
theorem mm_sipush (C : mm_C d y cc nL ret oz hz V) {n : Int} {v : Int32} (hd : decode cc pc = .ok (.sipush n, 3)) (hv : (Int16.ofInt n).toInt32 = v) (k : V (pc + 3) lv (.int v :: st) h) : V pc lv (st) h := by
  obtain ⟨p, l, e, s, m, args, below, meth, c, h0, G, ⟨hsl, hx, hb, hml, hr, hlk, hown, hnm, htab⟩, hts, hS, rfl⟩ := C
  intro H locs ls hls a1 a2 a3 a4
  exact lv_sipush hx hb hd hv (k H locs ls hls a1 a2 a3 a4)
theorem mm_lconst (C : mm_C d y cc nL ret oz hz V) {n : Fin 2} {v : Int64} (hd : decode cc pc = .ok (.lconst n, 1)) (hv : Int64.ofNat (n : Nat) = v) (k : V (pc + 1) lv (.long v :: st) h) : V pc lv (st) h := by
  obtain ⟨p, l, e, s, m, args, below, meth, c, h0, G, ⟨hsl, hx, hb, hml, hr, hlk, hown, hnm, htab⟩, hts, hS, rfl⟩ := C
  intro H locs ls hls a1 a2 a3 a4
  exact lv_lconst hx hb hd hv (k H locs ls hls a1 a2 a3 a4)
theorem mm_null (C : mm_C d y cc nL ret oz hz V)  (hd : decode cc pc = .ok (.aconst_null, 1)) (k : V (pc + 1) lv (va_rf none :: st) h) : V pc lv (st) h := by
  obtain ⟨p, l, e, s, m, args, below, meth, c, h0, G, ⟨hsl, hx, hb, hml, hr, hlk, hown, hnm, htab⟩, hts, hS, rfl⟩ := C
  intro H locs ls hls a1 a2 a3 a4
  exact lv_null hx hb hd (k H locs ls hls a1 a2 a3 a4)
theorem mm_ldc (C : mm_C d y cc nL ret oz hz V) {i : Nat} {v : Int32} (hd : decode cc pc = .ok (.ldc i, 2)) (hw : Cond.constant y.cls i v ∈ lw_good) (k : V (pc + 2) lv (.int v :: st) h) : V pc lv (st) h := by
  obtain ⟨p, l, e, s, m, args, below, meth, c, h0, G, ⟨hsl, hx, hb, hml, hr, hlk, hown, hnm, htab⟩, hts, hS, rfl⟩ := C
  intro H locs ls hls a1 a2 a3 a4
  exact lv_ldc hx hb hown (hts _ hw) hd (k H locs ls hls a1 a2 a3 a4)
theorem mm_ldcw (C : mm_C d y cc nL ret oz hz V) {i : Nat} {v : Int32} (hd : decode cc pc = .ok (.ldc_w i, 3)) (hw : Cond.constant y.cls i v ∈ lw_good) (k : V (pc + 3) lv (.int v :: st) h) : V pc lv (st) h := by
  obtain ⟨p, l, e, s, m, args, below, meth, c, h0, G, ⟨hsl, hx, hb, hml, hr, hlk, hown, hnm, htab⟩, hts, hS, rfl⟩ := C
  intro H locs ls hls a1 a2 a3 a4
  exact lv_ldcw hx hb hown (hts _ hw) hd (k H locs ls hls a1 a2 a3 a4)
theorem mm_ldc2 (C : mm_C d y cc nL ret oz hz V) {i : Nat} {v : Int64} (hd : decode cc pc = .ok (.ldc2_w i, 3)) (hw : Cond.constantLong y.cls i v ∈ lw_good) (k : V (pc + 3) lv (.long v :: st) h) : V pc lv (st) h := by
  obtain ⟨p, l, e, s, m, args, below, meth, c, h0, G, ⟨hsl, hx, hb, hml, hr, hlk, hown, hnm, htab⟩, hts, hS, rfl⟩ := C
  intro H locs ls hls a1 a2 a3 a4
  exact lv_ldc2 hx hb hown (hts _ hw) hd (k H locs ls hls a1 a2 a3 a4)
theorem mm_dup (C : mm_C d y cc nL ret oz hz V) {v : Value} (hd : decode cc pc = .ok (.dup, 1)) (hv : v.category = 1) (k : V (pc + 1) lv (v :: v :: st) h) : V pc lv (v :: st) h := by
  obtain ⟨p, l, e, s, m, args, below, meth, c, h0, G, ⟨hsl, hx, hb, hml, hr, hlk, hown, hnm, htab⟩, hts, hS, rfl⟩ := C
  intro H locs ls hls a1 a2 a3 a4
  exact lv_dup hx hb hd (by rw [mm_v_cat]; exact hv) (k H locs ls hls a1 a2 a3 a4)
theorem mm_pop (C : mm_C d y cc nL ret oz hz V) {v : Value} (hd : decode cc pc = .ok (.pop, 1)) (hv : v.category = 1) (k : V (pc + 1) lv (st) h) : V pc lv (v :: st) h := by
  obtain ⟨p, l, e, s, m, args, below, meth, c, h0, G, ⟨hsl, hx, hb, hml, hr, hlk, hown, hnm, htab⟩, hts, hS, rfl⟩ := C
  intro H locs ls hls a1 a2 a3 a4
  exact lv_pop hx hb hd (by rw [mm_v_cat]; exact hv) (k H locs ls hls a1 a2 a3 a4)
theorem mm_pop2 (C : mm_C d y cc nL ret oz hz V) {v : Value} (hd : decode cc pc = .ok (.pop2, 1)) (hv : v.category = 2) (k : V (pc + 1) lv (st) h) : V pc lv (v :: st) h := by
  obtain ⟨p, l, e, s, m, args, below, meth, c, h0, G, ⟨hsl, hx, hb, hml, hr, hlk, hown, hnm, htab⟩, hts, hS, rfl⟩ := C
  intro H locs ls hls a1 a2 a3 a4
  exact lv_pop2_2 hx hb hd (by rw [mm_v_cat]; exact hv) (k H locs ls hls a1 a2 a3 a4)
theorem mm_dup2 (C : mm_C d y cc nL ret oz hz V) {v w : Value} (hd : decode cc pc = .ok (.dup2, 1)) (hv : v.category = 1) (hw : w.category = 1) (k : V (pc + 1) lv (v :: w :: v :: w :: st) h) : V pc lv (v :: w :: st) h := by
  obtain ⟨p, l, e, s, m, args, below, meth, c, h0, G, ⟨hsl, hx, hb, hml, hr, hlk, hown, hnm, htab⟩, hts, hS, rfl⟩ := C
  intro H locs ls hls a1 a2 a3 a4
  exact lv_dup2_11 hx hb hd (by rw [mm_v_cat]; exact hv) (by rw [mm_v_cat]; exact hw) (k H locs ls hls a1 a2 a3 a4)
theorem mm_dup2l (C : mm_C d y cc nL ret oz hz V) {v : Value} (hd : decode cc pc = .ok (.dup2, 1)) (hv : v.category = 2) (k : V (pc + 1) lv (v :: v :: st) h) : V pc lv (v :: st) h := by
  obtain ⟨p, l, e, s, m, args, below, meth, c, h0, G, ⟨hsl, hx, hb, hml, hr, hlk, hown, hnm, htab⟩, hts, hS, rfl⟩ := C
  intro H locs ls hls a1 a2 a3 a4
  exact lv_dup2_2 hx hb hd (by rw [mm_v_cat]; exact hv) (k H locs ls hls a1 a2 a3 a4)
theorem mm_iload_n (C : mm_C d y cc nL ret oz hz V) {q : Fin 4} {x : Int32} (j : Nat) (hd : decode cc pc = .ok (.iload_n q, 1)) (hj : lv[j]? = some ((q : Nat), .int x)) (k : V (pc + 1) lv (.int x :: st) h) : V pc lv (st) h := by
  obtain ⟨p, l, e, s, m, args, below, meth, c, h0, G, ⟨hsl, hx, hb, hml, hr, hlk, hown, hnm, htab⟩, hts, hS, rfl⟩ := C
  intro H locs ls hls a1 a2 a3 a4
  exact lv_iload_n hx hb hd rfl (lv_at hls j (mm_lv hj)) (k H locs ls hls a1 a2 a3 a4)
theorem mm_iload (C : mm_C d y cc nL ret oz hz V) {q : Nat} {x : Int32} (j : Nat) (hd : decode cc pc = .ok (.iload q, 2)) (hj : lv[j]? = some (q, .int x)) (k : V (pc + 2) lv (.int x :: st) h) : V pc lv (st) h := by
  obtain ⟨p, l, e, s, m, args, below, meth, c, h0, G, ⟨hsl, hx, hb, hml, hr, hlk, hown, hnm, htab⟩, hts, hS, rfl⟩ := C
  intro H locs ls hls a1 a2 a3 a4
  exact lv_iload hx hb hd (lv_at hls j (mm_lv hj)) (k H locs ls hls a1 a2 a3 a4)
theorem mm_lload_n (C : mm_C d y cc nL ret oz hz V) {q : Fin 4} {x : Int64} (j : Nat) (hd : decode cc pc = .ok (.lload_n q, 1)) (hj : lv[j]? = some ((q : Nat), .long x)) (k : V (pc + 1) lv (.long x :: st) h) : V pc lv (st) h := by
  obtain ⟨p, l, e, s, m, args, below, meth, c, h0, G, ⟨hsl, hx, hb, hml, hr, hlk, hown, hnm, htab⟩, hts, hS, rfl⟩ := C
  intro H locs ls hls a1 a2 a3 a4
  exact lv_lload_n hx hb hd rfl (lv_at hls j (mm_lv hj)) (k H locs ls hls a1 a2 a3 a4)
theorem mm_lload (C : mm_C d y cc nL ret oz hz V) {q : Nat} {x : Int64} (j : Nat) (hd : decode cc pc = .ok (.lload q, 2)) (hj : lv[j]? = some (q, .long x)) (k : V (pc + 2) lv (.long x :: st) h) : V pc lv (st) h := by
  obtain ⟨p, l, e, s, m, args, below, meth, c, h0, G, ⟨hsl, hx, hb, hml, hr, hlk, hown, hnm, htab⟩, hts, hS, rfl⟩ := C
  intro H locs ls hls a1 a2 a3 a4
  exact lv_lload hx hb hd (lv_at hls j (mm_lv hj)) (k H locs ls hls a1 a2 a3 a4)
theorem mm_aload_n (C : mm_C d y cc nL ret oz hz V) {q : Fin 4} {r : Option Nat} (j : Nat) (hd : decode cc pc = .ok (.aload_n q, 1)) (hj : lv[j]? = some ((q : Nat), va_rf r)) (k : V (pc + 1) lv (va_rf r :: st) h) : V pc lv st h := by
  obtain ⟨p, l, e, s, m, args, below, meth, c, h0, G, ⟨hsl, hx, hb, hml, hr, hlk, hown, hnm, htab⟩, hts, hS, rfl⟩ := C
  intro H locs ls hls a1 a2 a3 a4
  have h9 := lv_at hls j (mm_lv hj)
  have h8 := k H locs ls hls a1 a2 a3 a4
  cases r with
  | none => exact lv_aload_nN hx hb hd rfl h9 h8
  | some b => exact lv_aload_n hx hb hd rfl h9 h8
theorem mm_aload (C : mm_C d y cc nL ret oz hz V) {q : Nat} {r : Option Nat} (j : Nat) (hd : decode cc pc = .ok (.aload q, 2)) (hj : lv[j]? = some (q, va_rf r)) (k : V (pc + 2) lv (va_rf r :: st) h) : V pc lv st h := by
  obtain ⟨p, l, e, s, m, args, below, meth, c, h0, G, ⟨hsl, hx, hb, hml, hr, hlk, hown, hnm, htab⟩, hts, hS, rfl⟩ := C
  intro H locs ls hls a1 a2 a3 a4
  have h9 := lv_at hls j (mm_lv hj)
  have h8 := k H locs ls hls a1 a2 a3 a4
  cases r with
  | none => exact lv_aloadN hx hb hd h9 h8
  | some b => exact lv_aload hx hb hd h9 h8
theorem mm_istore_n (C : mm_C d y cc nL ret oz hz V) {q : Fin 4} {i : Nat} {x : Int32} (hd : decode cc pc = .ok (.istore_n q, 1)) (hq : (q : Nat) = i) (hn : i < nL) (hl : (i, .int x) :: lv.filter (fun q => !(q.1 == i) && !(q.1 + 1 == i && q.2.category == 2)) = lv') (k : V (pc + 1) lv' st h) : V pc lv (.int x :: st) h := by
  obtain ⟨p, l, e, s, m, args, below, meth, c, h0, G, ⟨hsl, hx, hb, hml, hr, hlk, hown, hnm, htab⟩, hts, hS, rfl⟩ := C
  intro H locs ls hls a1 a2 a3 a4
  refine lv_istore_n (lv' := lv'.map fun q => (q.1, mm_v G q.2)) hx hb hd hq hls hn (by rw [← hl]; exact congrArg _ (mm_flt G (fun a b => !(a == i) && !(a + 1 == i && b == 2)) lv)) (fun ls' hls' => k H locs ls' hls' a1 a2 a3 a4)
theorem mm_istore (C : mm_C d y cc nL ret oz hz V) {i : Nat} {x : Int32} (hd : decode cc pc = .ok (.istore i, 2)) (hn : i < nL) (hl : (i, .int x) :: lv.filter (fun q => !(q.1 == i) && !(q.1 + 1 == i && q.2.category == 2)) = lv') (k : V (pc + 2) lv' st h) : V pc lv (.int x :: st) h := by
  obtain ⟨p, l, e, s, m, args, below, meth, c, h0, G, ⟨hsl, hx, hb, hml, hr, hlk, hown, hnm, htab⟩, hts, hS, rfl⟩ := C
  intro H locs ls hls a1 a2 a3 a4
  refine lv_istore (lv' := lv'.map fun q => (q.1, mm_v G q.2)) hx hb hd hls hn (by rw [← hl]; exact congrArg _ (mm_flt G (fun a b => !(a == i) && !(a + 1 == i && b == 2)) lv)) (fun ls' hls' => k H locs ls' hls' a1 a2 a3 a4)
theorem mm_lstore_n (C : mm_C d y cc nL ret oz hz V) {q : Fin 4} {i : Nat} {x : Int64} (hd : decode cc pc = .ok (.lstore_n q, 1)) (hq : (q : Nat) = i) (hn : i + 1 < nL) (hl : (i, .long x) :: lv.filter (fun q => !(q.1 == i) && (!(q.1 == i + 1) && !(q.1 + 1 == i && q.2.category == 2))) = lv') (k : V (pc + 1) lv' st h) : V pc lv (.long x :: st) h := by
  obtain ⟨p, l, e, s, m, args, below, meth, c, h0, G, ⟨hsl, hx, hb, hml, hr, hlk, hown, hnm, htab⟩, hts, hS, rfl⟩ := C
  intro H locs ls hls a1 a2 a3 a4
  refine lv_lstore_n (lv' := lv'.map fun q => (q.1, mm_v G q.2)) hx hb hd hq hls hn (by rw [← hl]; exact congrArg _ (mm_flt G (fun a b => !(a == i) && (!(a == i + 1) && !(a + 1 == i && b == 2))) lv)) (fun ls' hls' => k H locs ls' hls' a1 a2 a3 a4)
theorem mm_lstore (C : mm_C d y cc nL ret oz hz V) {i : Nat} {x : Int64} (hd : decode cc pc = .ok (.lstore i, 2)) (hn : i + 1 < nL) (hl : (i, .long x) :: lv.filter (fun q => !(q.1 == i) && (!(q.1 == i + 1) && !(q.1 + 1 == i && q.2.category == 2))) = lv') (k : V (pc + 2) lv' st h) : V pc lv (.long x :: st) h := by
  obtain ⟨p, l, e, s, m, args, below, meth, c, h0, G, ⟨hsl, hx, hb, hml, hr, hlk, hown, hnm, htab⟩, hts, hS, rfl⟩ := C
  intro H locs ls hls a1 a2 a3 a4
  refine lv_lstore (lv' := lv'.map fun q => (q.1, mm_v G q.2)) hx hb hd hls hn (by rw [← hl]; exact congrArg _ (mm_flt G (fun a b => !(a == i) && (!(a == i + 1) && !(a + 1 == i && b == 2))) lv)) (fun ls' hls' => k H locs ls' hls' a1 a2 a3 a4)
theorem mm_astore_n (C : mm_C d y cc nL ret oz hz V) {q : Fin 4} {i : Nat} {r : Option Nat} (hd : decode cc pc = .ok (.astore_n q, 1)) (hq : (q : Nat) = i) (hn : i < nL) (hl : (i, va_rf r) :: lv.filter (fun q => !(q.1 == i) && !(q.1 + 1 == i && q.2.category == 2)) = lv') (k : V (pc + 1) lv' st h) : V pc lv (va_rf r :: st) h := by
  obtain ⟨p, l, e, s, m, args, below, meth, c, h0, G, ⟨hsl, hx, hb, hml, hr, hlk, hown, hnm, htab⟩, hts, hS, rfl⟩ := C
  intro H locs ls hls a1 a2 a3 a4
  cases r with
  | none => exact lv_astore_nN (lv' := lv'.map fun q => (q.1, mm_v G q.2)) hx hb hd hq hls hn (by rw [← hl]; exact congrArg _ (mm_flt G (fun a b => !(a == i) && !(a + 1 == i && b == 2)) lv)) (fun ls' hls' => k H locs ls' hls' a1 a2 a3 a4)
  | some b => exact lv_astore_n (lv' := lv'.map fun q => (q.1, mm_v G q.2)) hx hb hd hq hls hn (by rw [← hl]; exact congrArg _ (mm_flt G (fun a b => !(a == i) && !(a + 1 == i && b == 2)) lv)) (fun ls' hls' => k H locs ls' hls' a1 a2 a3 a4)
theorem mm_astore (C : mm_C d y cc nL ret oz hz V) {i : Nat} {r : Option Nat} (hd : decode cc pc = .ok (.astore i, 2)) (hn : i < nL) (hl : (i, va_rf r) :: lv.filter (fun q => !(q.1 == i) && !(q.1 + 1 == i && q.2.category == 2)) = lv') (k : V (pc + 2) lv' st h) : V pc lv (va_rf r :: st) h := by
  obtain ⟨p, l, e, s, m, args, below, meth, c, h0, G, ⟨hsl, hx, hb, hml, hr, hlk, hown, hnm, htab⟩, hts, hS, rfl⟩ := C
  intro H locs ls hls a1 a2 a3 a4
  cases r with
  | none => exact lv_astoreN (lv' := lv'.map fun q => (q.1, mm_v G q.2)) hx hb hd hls hn (by rw [← hl]; exact congrArg _ (mm_flt G (fun a b => !(a == i) && !(a + 1 == i && b == 2)) lv)) (fun ls' hls' => k H locs ls' hls' a1 a2 a3 a4)
  | some b => exact lv_astore (lv' := lv'.map fun q => (q.1, mm_v G q.2)) hx hb hd hls hn (by rw [← hl]; exact congrArg _ (mm_flt G (fun a b => !(a == i) && !(a + 1 == i && b == 2)) lv)) (fun ls' hls' => k H locs ls' hls' a1 a2 a3 a4)
theorem mm_iinc (C : mm_C d y cc nL ret oz hz V) {i : Nat} {n : Int} {x v : Int32} (j : Nat) (hd : decode cc pc = .ok (.iinc i n, 3)) (hj : lv[j]? = some (i, .int x)) (hv : x + Int32.ofInt n = v) (hn : i < nL) (hl : (i, .int v) :: lv.filter (fun q => !(q.1 == i) && !(q.1 + 1 == i && q.2.category == 2)) = lv') (k : V (pc + 3) lv' st h) : V pc lv st h := by
  obtain ⟨p, l, e, s, m, args, below, meth, c, h0, G, ⟨hsl, hx, hb, hml, hr, hlk, hown, hnm, htab⟩, hts, hS, rfl⟩ := C
  intro H locs ls hls a1 a2 a3 a4
  exact lv_iinc (lv' := lv'.map fun q => (q.1, mm_v G q.2)) hx hb hd hls (k := j) (mm_lv hj) hv hn (by rw [← hl]; exact congrArg _ (mm_flt G (fun a b => !(a == i) && !(a + 1 == i && b == 2)) lv)) (fun ls' hls' => k H locs ls' hls' a1 a2 a3 a4)
theorem mm_if_eq (C : mm_C d y cc nL ret oz hz V) {x : Int32} {off : Int} {tgt : Nat} (hd : decode cc pc = .ok (.ifCond .eq off, 3)) (ht : (pc : Int) + off = (tgt : Int)) (kt : x = 0 → V tgt lv st h) (kf : ¬ x = 0 → V (pc + 3) lv st h) : V pc lv (.int x :: st) h := by
  obtain ⟨p, l, e, s, m, args, below, meth, c, h0, G, ⟨hsl, hx, hb, hml, hr, hlk, hown, hnm, htab⟩, hts, hS, rfl⟩ := C
  intro H locs ls hls a1 a2 a3 a4
  exact lv_if_eq hx hb hd ht (fun q => kt q H locs ls hls a1 a2 a3 a4) (fun q => kf q H locs ls hls a1 a2 a3 a4)
theorem mm_if_ne (C : mm_C d y cc nL ret oz hz V) {x : Int32} {off : Int} {tgt : Nat} (hd : decode cc pc = .ok (.ifCond .ne off, 3)) (ht : (pc : Int) + off = (tgt : Int)) (kt : ¬ x = 0 → V tgt lv st h) (kf : x = 0 → V (pc + 3) lv st h) : V pc lv (.int x :: st) h := by
  obtain ⟨p, l, e, s, m, args, below, meth, c, h0, G, ⟨hsl, hx, hb, hml, hr, hlk, hown, hnm, htab⟩, hts, hS, rfl⟩ := C
  intro H locs ls hls a1 a2 a3 a4
  exact lv_if_ne hx hb hd ht (fun q => kt q H locs ls hls a1 a2 a3 a4) (fun q => kf q H locs ls hls a1 a2 a3 a4)
theorem mm_if_lt (C : mm_C d y cc nL ret oz hz V) {x : Int32} {off : Int} {tgt : Nat} (hd : decode cc pc = .ok (.ifCond .lt off, 3)) (ht : (pc : Int) + off = (tgt : Int)) (kt : x < 0 → V tgt lv st h) (kf : ¬ x < 0 → V (pc + 3) lv st h) : V pc lv (.int x :: st) h := by
  obtain ⟨p, l, e, s, m, args, below, meth, c, h0, G, ⟨hsl, hx, hb, hml, hr, hlk, hown, hnm, htab⟩, hts, hS, rfl⟩ := C
  intro H locs ls hls a1 a2 a3 a4
  exact lv_if_lt hx hb hd ht (fun q => kt q H locs ls hls a1 a2 a3 a4) (fun q => kf q H locs ls hls a1 a2 a3 a4)
theorem mm_if_ge (C : mm_C d y cc nL ret oz hz V) {x : Int32} {off : Int} {tgt : Nat} (hd : decode cc pc = .ok (.ifCond .ge off, 3)) (ht : (pc : Int) + off = (tgt : Int)) (kt : 0 ≤ x → V tgt lv st h) (kf : ¬ 0 ≤ x → V (pc + 3) lv st h) : V pc lv (.int x :: st) h := by
  obtain ⟨p, l, e, s, m, args, below, meth, c, h0, G, ⟨hsl, hx, hb, hml, hr, hlk, hown, hnm, htab⟩, hts, hS, rfl⟩ := C
  intro H locs ls hls a1 a2 a3 a4
  exact lv_if_ge hx hb hd ht (fun q => kt q H locs ls hls a1 a2 a3 a4) (fun q => kf q H locs ls hls a1 a2 a3 a4)
theorem mm_if_gt (C : mm_C d y cc nL ret oz hz V) {x : Int32} {off : Int} {tgt : Nat} (hd : decode cc pc = .ok (.ifCond .gt off, 3)) (ht : (pc : Int) + off = (tgt : Int)) (kt : 0 < x → V tgt lv st h) (kf : ¬ 0 < x → V (pc + 3) lv st h) : V pc lv (.int x :: st) h := by
  obtain ⟨p, l, e, s, m, args, below, meth, c, h0, G, ⟨hsl, hx, hb, hml, hr, hlk, hown, hnm, htab⟩, hts, hS, rfl⟩ := C
  intro H locs ls hls a1 a2 a3 a4
  exact lv_if_gt hx hb hd ht (fun q => kt q H locs ls hls a1 a2 a3 a4) (fun q => kf q H locs ls hls a1 a2 a3 a4)
theorem mm_if_le (C : mm_C d y cc nL ret oz hz V) {x : Int32} {off : Int} {tgt : Nat} (hd : decode cc pc = .ok (.ifCond .le off, 3)) (ht : (pc : Int) + off = (tgt : Int)) (kt : x ≤ 0 → V tgt lv st h) (kf : ¬ x ≤ 0 → V (pc + 3) lv st h) : V pc lv (.int x :: st) h := by
  obtain ⟨p, l, e, s, m, args, below, meth, c, h0, G, ⟨hsl, hx, hb, hml, hr, hlk, hown, hnm, htab⟩, hts, hS, rfl⟩ := C
  intro H locs ls hls a1 a2 a3 a4
  exact lv_if_le hx hb hd ht (fun q => kt q H locs ls hls a1 a2 a3 a4) (fun q => kf q H locs ls hls a1 a2 a3 a4)
theorem mm_icmp_eq (C : mm_C d y cc nL ret oz hz V) {x z : Int32} {off : Int} {tgt : Nat} (hd : decode cc pc = .ok (.if_icmp .eq off, 3)) (ht : (pc : Int) + off = (tgt : Int)) (kt : x = z → V tgt lv st h) (kf : ¬ x = z → V (pc + 3) lv st h) : V pc lv (.int z :: .int x :: st) h := by
  obtain ⟨p, l, e, s, m, args, below, meth, c, h0, G, ⟨hsl, hx, hb, hml, hr, hlk, hown, hnm, htab⟩, hts, hS, rfl⟩ := C
  intro H locs ls hls a1 a2 a3 a4
  exact lv_icmp_eq hx hb hd ht (fun q => kt q H locs ls hls a1 a2 a3 a4) (fun q => kf q H locs ls hls a1 a2 a3 a4)
theorem mm_icmp_ne (C : mm_C d y cc nL ret oz hz V) {x z : Int32} {off : Int} {tgt : Nat} (hd : decode cc pc = .ok (.if_icmp .ne off, 3)) (ht : (pc : Int) + off = (tgt : Int)) (kt : ¬ x = z → V tgt lv st h) (kf : x = z → V (pc + 3) lv st h) : V pc lv (.int z :: .int x :: st) h := by
  obtain ⟨p, l, e, s, m, args, below, meth, c, h0, G, ⟨hsl, hx, hb, hml, hr, hlk, hown, hnm, htab⟩, hts, hS, rfl⟩ := C
  intro H locs ls hls a1 a2 a3 a4
  exact lv_icmp_ne hx hb hd ht (fun q => kt q H locs ls hls a1 a2 a3 a4) (fun q => kf q H locs ls hls a1 a2 a3 a4)
theorem mm_icmp_lt (C : mm_C d y cc nL ret oz hz V) {x z : Int32} {off : Int} {tgt : Nat} (hd : decode cc pc = .ok (.if_icmp .lt off, 3)) (ht : (pc : Int) + off = (tgt : Int)) (kt : x < z → V tgt lv st h) (kf : ¬ x < z → V (pc + 3) lv st h) : V pc lv (.int z :: .int x :: st) h := by
  obtain ⟨p, l, e, s, m, args, below, meth, c, h0, G, ⟨hsl, hx, hb, hml, hr, hlk, hown, hnm, htab⟩, hts, hS, rfl⟩ := C
  intro H locs ls hls a1 a2 a3 a4
  exact lv_icmp_lt hx hb hd ht (fun q => kt q H locs ls hls a1 a2 a3 a4) (fun q => kf q H locs ls hls a1 a2 a3 a4)
theorem mm_icmp_ge (C : mm_C d y cc nL ret oz hz V) {x z : Int32} {off : Int} {tgt : Nat} (hd : decode cc pc = .ok (.if_icmp .ge off, 3)) (ht : (pc : Int) + off = (tgt : Int)) (kt : z ≤ x → V tgt lv st h) (kf : ¬ z ≤ x → V (pc + 3) lv st h) : V pc lv (.int z :: .int x :: st) h := by
  obtain ⟨p, l, e, s, m, args, below, meth, c, h0, G, ⟨hsl, hx, hb, hml, hr, hlk, hown, hnm, htab⟩, hts, hS, rfl⟩ := C
  intro H locs ls hls a1 a2 a3 a4
  exact lv_icmp_ge hx hb hd ht (fun q => kt q H locs ls hls a1 a2 a3 a4) (fun q => kf q H locs ls hls a1 a2 a3 a4)
theorem mm_icmp_gt (C : mm_C d y cc nL ret oz hz V) {x z : Int32} {off : Int} {tgt : Nat} (hd : decode cc pc = .ok (.if_icmp .gt off, 3)) (ht : (pc : Int) + off = (tgt : Int)) (kt : z < x → V tgt lv st h) (kf : ¬ z < x → V (pc + 3) lv st h) : V pc lv (.int z :: .int x :: st) h := by
  obtain ⟨p, l, e, s, m, args, below, meth, c, h0, G, ⟨hsl, hx, hb, hml, hr, hlk, hown, hnm, htab⟩, hts, hS, rfl⟩ := C
  intro H locs ls hls a1 a2 a3 a4
  exact lv_icmp_gt hx hb hd ht (fun q => kt q H locs ls hls a1 a2 a3 a4) (fun q => kf q H locs ls hls a1 a2 a3 a4)
theorem mm_icmp_le (C : mm_C d y cc nL ret oz hz V) {x z : Int32} {off : Int} {tgt : Nat} (hd : decode cc pc = .ok (.if_icmp .le off, 3)) (ht : (pc : Int) + off = (tgt : Int)) (kt : x ≤ z → V tgt lv st h) (kf : ¬ x ≤ z → V (pc + 3) lv st h) : V pc lv (.int z :: .int x :: st) h := by
  obtain ⟨p, l, e, s, m, args, below, meth, c, h0, G, ⟨hsl, hx, hb, hml, hr, hlk, hown, hnm, htab⟩, hts, hS, rfl⟩ := C
  intro H locs ls hls a1 a2 a3 a4
  exact lv_icmp_le hx hb hd ht (fun q => kt q H locs ls hls a1 a2 a3 a4) (fun q => kf q H locs ls hls a1 a2 a3 a4)
theorem mm_goto (C : mm_C d y cc nL ret oz hz V) {off : Int} {tgt : Nat} (hd : decode cc pc = .ok (.goto off, 3)) (ht : (pc : Int) + off = (tgt : Int)) (k : V tgt lv st h) : V pc lv st h := by
  obtain ⟨p, l, e, s, m, args, below, meth, c, h0, G, ⟨hsl, hx, hb, hml, hr, hlk, hown, hnm, htab⟩, hts, hS, rfl⟩ := C
  intro H locs ls hls a1 a2 a3 a4
  exact lv_goto hx hb hd ht (k H locs ls hls a1 a2 a3 a4)
theorem mm_ifnull (C : mm_C d y cc nL ret oz hz V) {r : Option Nat} {off : Int} {tgt : Nat} (hd : decode cc pc = .ok (.ifnull off, 3)) (ht : (pc : Int) + off = (tgt : Int)) (kt : r = none → V tgt lv st h) (kf : ¬ r = none → V (pc + 3) lv st h) : V pc lv (va_rf r :: st) h := by
  obtain ⟨p, l, e, s, m, args, below, meth, c, h0, G, ⟨hsl, hx, hb, hml, hr, hlk, hown, hnm, htab⟩, hts, hS, rfl⟩ := C
  intro H locs ls hls a1 a2 a3 a4
  cases r with
  | none => exact lv_ifnullN hx hb hd ht (kt rfl H locs ls hls a1 a2 a3 a4)
  | some b => exact lv_ifnull hx hb hd (kf (fun q => by cases q) H locs ls hls a1 a2 a3 a4)
theorem mm_ifnonnull (C : mm_C d y cc nL ret oz hz V) {r : Option Nat} {off : Int} {tgt : Nat} (hd : decode cc pc = .ok (.ifnonnull off, 3)) (ht : (pc : Int) + off = (tgt : Int)) (kt : ¬ r = none → V tgt lv st h) (kf : r = none → V (pc + 3) lv st h) : V pc lv (va_rf r :: st) h := by
  obtain ⟨p, l, e, s, m, args, below, meth, c, h0, G, ⟨hsl, hx, hb, hml, hr, hlk, hown, hnm, htab⟩, hts, hS, rfl⟩ := C
  intro H locs ls hls a1 a2 a3 a4
  cases r with
  | none => exact lv_ifnonnullN hx hb hd (kf rfl H locs ls hls a1 a2 a3 a4)
  | some b => exact lv_ifnonnull hx hb hd ht (kt (fun q => by cases q) H locs ls hls a1 a2 a3 a4)
theorem mm_tableOut (C : mm_C d y cc nL ret oz hz V) {dflt lo hi : Int} {offs : Array Int} {len : Nat} {x : Int32} {tgt : Nat} (hd : decode cc pc = .ok (.tableswitch dflt lo hi offs, len)) (hq : x.toInt < lo ∨ hi < x.toInt) (ht : (pc : Int) + dflt = (tgt : Int)) (k : V tgt lv st h) : V pc lv (.int x :: st) h := by
  obtain ⟨p, l, e, s, m, args, below, meth, c, h0, G, ⟨hsl, hx, hb, hml, hr, hlk, hown, hnm, htab⟩, hts, hS, rfl⟩ := C
  intro H locs ls hls a1 a2 a3 a4
  exact lv_tableOut hx hb hd hq ht (k H locs ls hls a1 a2 a3 a4)
theorem mm_tableIn (C : mm_C d y cc nL ret oz hz V) {dflt lo hi : Int} {offs : Array Int} {len : Nat} {x : Int32} {off : Int} {tgt : Nat} (hd : decode cc pc = .ok (.tableswitch dflt lo hi offs, len)) (h1 : ¬ x.toInt < lo) (h2 : ¬ hi < x.toInt) (ho : offs[(x.toInt - lo).toNat]? = some off) (ht : (pc : Int) + off = (tgt : Int)) (k : V tgt lv st h) : V pc lv (.int x :: st) h := by
  obtain ⟨p, l, e, s, m, args, below, meth, c, h0, G, ⟨hsl, hx, hb, hml, hr, hlk, hown, hnm, htab⟩, hts, hS, rfl⟩ := C
  intro H locs ls hls a1 a2 a3 a4
  exact lv_tableIn hx hb hd h1 h2 ho ht (k H locs ls hls a1 a2 a3 a4)
theorem mm_sub (C : mm_C d y cc nL ret oz hz V) (ks : List Nat) (hl : lv_pick lv ks = lv') (k : V pc lv' st h) : V pc lv st h := by
  obtain ⟨p, l, e, s, m, args, below, meth, c, h0, G, ⟨hsl, hx, hb, hml, hr, hlk, hown, hnm, htab⟩, hts, hS, rfl⟩ := C
  intro H locs ls hls a1 a2 a3 a4
  refine k H locs ls (lv_sub hls ks ?_) a1 a2 a3 a4
  rw [← hl]
  simp only [lv_pick, List.getElem?_map, List.map_filterMap]
end MMP
theorem mm_bd {α β : Type} {o : Option α} {f : α → Option β} {r : β} (h : o.bind f = some r) : ∃ v, o = some v ∧ f v = some r := Option.bind_eq_some_iff.mp h
theorem mm_ip {α : Type} {c : Prop} [i : Decidable c] {a b r : α} (hc : c) (h : (if c then a else b) = r) : a = r := by rw [if_pos hc] at h; exact h
theorem mm_in {α : Type} {c : Prop} [i : Decidable c] {a b r : α} (hc : ¬ c) (h : (if c then a else b) = r) : b = r := by rw [if_neg hc] at h; exact h
