theorem wd_188 : Cond.methodLink RX3 3 Lib.objectInit ∈ lw_good := mm_wd 188 (by decide +kernel) (by decide +kernel)
theorem wd_181 : Cond.instanceMethod Lib.objectInit ∈ lw_good := mm_wd 181 (by decide +kernel) (by decide +kernel)
theorem wd_182 : Cond.code Lib.objectInit ⟨#[0xb1]⟩ 1 none ∈ lw_good := mm_wd 182 (by decide +kernel) (by decide +kernel)
theorem wd_200 : Cond.arrayClass .int ∈ lw_good := mm_wd 200 (by decide +kernel) (by decide +kernel)
theorem wd_189 : Cond.fieldLink RX3 11 "CrossedLines$Deeds" "rows" "[I" ∈ lw_good := mm_wd 189 (by decide +kernel) (by decide +kernel)
theorem inGX3 : ∀ w ∈ u_ws RX3 TX3 3, w ∈ lw_good := mm_ws [192, 194, 196] (by decide +kernel) (by decide +kernel)
theorem wd_190 : Cond.fieldLink RX3 17 "CrossedLines$Deeds" "next" "I" ∈ lw_good := mm_wd 190 (by decide +kernel) (by decide +kernel)
theorem wd_191 : Cond.fieldLink RX3 21 "CrossedLines$Deeds" "many" "I" ∈ lw_good := mm_wd 191 (by decide +kernel) (by decide +kernel)
def F_X3_init (a0 : Option Nat) (h : MH) : Option MH := a0.bind fun b1 => mm_b2 (nI_ h 0 (810 : Int32)) fun v8 h8 => (pR h8 (some b1) 3 0 v8).bind fun h10 => (pI h10 (some b1) 3 1 (0 : Int32)).bind fun h15 => (pI h15 (some b1) 3 2 (0 : Int32)).bind fun h20 => some h20
set_option maxRecDepth 20000 in
set_option maxHeartbeats 4000000 in
theorem S_X3_init {d : Nat} (hd : 1 ≤ d) {a0 : Option Nat} {h : MH} {hz : MH} (hK : F_X3_init a0 h = some hz) : mm_M yX3_init cX3_init 1 none d [va_rf a0] h (.inr none) hz := by
  refine mm_ofV (by decide +kernel) (by simp [lg_sl, mm_crf, mm_cti, mm_ctl]) (fun V C => ?_)
  rw [show lv_args 0 [va_rf a0] = [(0, va_rf a0)] by simp [lv_args, mm_crf, mm_cti, mm_ctl]]
  unfold F_X3_init at hK
  refine mm_aload_n C (pc := 0) 0 dX3_init_0 rfl ?_
  replace hK := mm_bd hK; obtain ⟨b1, e1, hK⟩ := hK
  subst e1
  refine mm_objInit C (pc := 1) wd_188 wd_181 wd_182 (by omega) (by simp [mm_crf, mm_cti, mm_ctl]) dX3_init_1 ?_
  refine mm_aload_n C (pc := 4) 0 dX3_init_4 rfl ?_
  refine mm_sipush C (pc := 5) (v := (810 : Int32)) dX3_init_5 (by decide) ?_
  replace hK := mm_b2s hK; obtain ⟨v8, h8, e8, hK⟩ := hK
  refine mm_newI C (pc := 8) wd_200 dX3_init_8 e8 ?_
  replace hK := mm_bd hK; obtain ⟨h10, e10, hK⟩ := hK
  refine mm_putr C (pc := 10) (k := 0) true (fun _ => ⟨rfl, rfl⟩) inGX3 tyX3 tyX3_ok nmX3 rfl (by decide) wd_189 rfl rfl dX3_init_10 e10 ?_
  refine mm_aload_n C (pc := 13) 0 dX3_init_13 rfl ?_
  refine mm_iconst C (pc := 14) (v := (0 : Int32)) dX3_init_14 (by decide) ?_
  replace hK := mm_bd hK; obtain ⟨h15, e15, hK⟩ := hK
  refine mm_puti C (pc := 15) (k := 1) false (fun z => by cases z) inGX3 tyX3 tyX3_ok nmX3 rfl (by decide) wd_190 rfl rfl dX3_init_15 e15 ?_
  refine mm_aload_n C (pc := 18) 0 dX3_init_18 rfl ?_
  refine mm_iconst C (pc := 19) (v := (0 : Int32)) dX3_init_19 (by decide) ?_
  replace hK := mm_bd hK; obtain ⟨h20, e20, hK⟩ := hK
  refine mm_puti C (pc := 20) (k := 2) false (fun z => by cases z) inGX3 tyX3 tyX3_ok nmX3 rfl (by decide) wd_191 rfl rfl dX3_init_20 e20 ?_
  cases hK
  exact mm_vret C (pc := 23) rfl dX3_init_23 rfl rfl
theorem wd_217 : Cond.methodLink RX1 3 Lib.objectInit ∈ lw_good := mm_wd 217 (by decide +kernel) (by decide +kernel)
theorem wd_218 : Cond.fieldLink RX1 9 "CrossedLines$Course" "order" "[I" ∈ lw_good := mm_wd 218 (by decide +kernel) (by decide +kernel)
theorem inGX1 : ∀ w ∈ u_ws RX1 TX1 6, w ∈ lw_good := mm_ws [224, 226, 228, 230, 232, 234] (by decide +kernel) (by decide +kernel)
theorem wd_219 : Cond.fieldLink RX1 15 "CrossedLines$Course" "many" "I" ∈ lw_good := mm_wd 219 (by decide +kernel) (by decide +kernel)
theorem wd_220 : Cond.fieldLink RX1 19 "CrossedLines$Course" "lineFree" "[I" ∈ lw_good := mm_wd 220 (by decide +kernel) (by decide +kernel)
theorem wd_221 : Cond.fieldLink RX1 22 "CrossedLines$Course" "cordFree" "[I" ∈ lw_good := mm_wd 221 (by decide +kernel) (by decide +kernel)
theorem wd_222 : Cond.fieldLink RX1 25 "CrossedLines$Course" "lineFreeFirst" "[I" ∈ lw_good := mm_wd 222 (by decide +kernel) (by decide +kernel)
theorem wd_223 : Cond.fieldLink RX1 28 "CrossedLines$Course" "cordFreeFirst" "[I" ∈ lw_good := mm_wd 223 (by decide +kernel) (by decide +kernel)
def F_X1_init (a0 : Option Nat) (h : MH) : Option MH := a0.bind fun b1 => mm_b2 (nI_ h 0 (10 : Int32)) fun v7 h7 => (pR h7 (some b1) 1 0 v7).bind fun h9 => (pI h9 (some b1) 1 1 (0 : Int32)).bind fun h14 => mm_b2 (nI_ h14 0 (8 : Int32)) fun v20 h20 => (pR h20 (some b1) 1 2 v20).bind fun h22 => mm_b2 (nI_ h22 0 (3 : Int32)) fun v27 h27 => (pR h27 (some b1) 1 3 v27).bind fun h29 => mm_b2 (nI_ h29 0 (8 : Int32)) fun v35 h35 => (pR h35 (some b1) 1 4 v35).bind fun h37 => mm_b2 (nI_ h37 0 (3 : Int32)) fun v42 h42 => (pR h42 (some b1) 1 5 v42).bind fun h44 => some h44
set_option maxRecDepth 20000 in
set_option maxHeartbeats 4000000 in
theorem S_X1_init {d : Nat} (hd : 1 ≤ d) {a0 : Option Nat} {h : MH} {hz : MH} (hK : F_X1_init a0 h = some hz) : mm_M yX1_init cX1_init 1 none d [va_rf a0] h (.inr none) hz := by
  refine mm_ofV (by decide +kernel) (by simp [lg_sl, mm_crf, mm_cti, mm_ctl]) (fun V C => ?_)
  rw [show lv_args 0 [va_rf a0] = [(0, va_rf a0)] by simp [lv_args, mm_crf, mm_cti, mm_ctl]]
  unfold F_X1_init at hK
  refine mm_aload_n C (pc := 0) 0 dX1_init_0 rfl ?_
  replace hK := mm_bd hK; obtain ⟨b1, e1, hK⟩ := hK
  subst e1
  refine mm_objInit C (pc := 1) wd_217 wd_181 wd_182 (by omega) (by simp [mm_crf, mm_cti, mm_ctl]) dX1_init_1 ?_
  refine mm_aload_n C (pc := 4) 0 dX1_init_4 rfl ?_
  refine mm_bipush C (pc := 5) (v := (10 : Int32)) dX1_init_5 (by decide) ?_
  replace hK := mm_b2s hK; obtain ⟨v7, h7, e7, hK⟩ := hK
  refine mm_newI C (pc := 7) wd_200 dX1_init_7 e7 ?_
  replace hK := mm_bd hK; obtain ⟨h9, e9, hK⟩ := hK
  refine mm_putr C (pc := 9) (k := 0) true (fun _ => ⟨rfl, rfl⟩) inGX1 tyX1 tyX1_ok nmX1 rfl (by decide) wd_218 rfl rfl dX1_init_9 e9 ?_
  refine mm_aload_n C (pc := 12) 0 dX1_init_12 rfl ?_
  refine mm_iconst C (pc := 13) (v := (0 : Int32)) dX1_init_13 (by decide) ?_
  replace hK := mm_bd hK; obtain ⟨h14, e14, hK⟩ := hK
  refine mm_puti C (pc := 14) (k := 1) false (fun z => by cases z) inGX1 tyX1 tyX1_ok nmX1 rfl (by decide) wd_219 rfl rfl dX1_init_14 e14 ?_
  refine mm_aload_n C (pc := 17) 0 dX1_init_17 rfl ?_
  refine mm_bipush C (pc := 18) (v := (8 : Int32)) dX1_init_18 (by decide) ?_
  replace hK := mm_b2s hK; obtain ⟨v20, h20, e20, hK⟩ := hK
  refine mm_newI C (pc := 20) wd_200 dX1_init_20 e20 ?_
  replace hK := mm_bd hK; obtain ⟨h22, e22, hK⟩ := hK
  refine mm_putr C (pc := 22) (k := 2) true (fun _ => ⟨rfl, rfl⟩) inGX1 tyX1 tyX1_ok nmX1 rfl (by decide) wd_220 rfl rfl dX1_init_22 e22 ?_
  refine mm_aload_n C (pc := 25) 0 dX1_init_25 rfl ?_
  refine mm_iconst C (pc := 26) (v := (3 : Int32)) dX1_init_26 (by decide) ?_
  replace hK := mm_b2s hK; obtain ⟨v27, h27, e27, hK⟩ := hK
  refine mm_newI C (pc := 27) wd_200 dX1_init_27 e27 ?_
  replace hK := mm_bd hK; obtain ⟨h29, e29, hK⟩ := hK
  refine mm_putr C (pc := 29) (k := 3) true (fun _ => ⟨rfl, rfl⟩) inGX1 tyX1 tyX1_ok nmX1 rfl (by decide) wd_221 rfl rfl dX1_init_29 e29 ?_
  refine mm_aload_n C (pc := 32) 0 dX1_init_32 rfl ?_
  refine mm_bipush C (pc := 33) (v := (8 : Int32)) dX1_init_33 (by decide) ?_
  replace hK := mm_b2s hK; obtain ⟨v35, h35, e35, hK⟩ := hK
  refine mm_newI C (pc := 35) wd_200 dX1_init_35 e35 ?_
  replace hK := mm_bd hK; obtain ⟨h37, e37, hK⟩ := hK
  refine mm_putr C (pc := 37) (k := 4) true (fun _ => ⟨rfl, rfl⟩) inGX1 tyX1 tyX1_ok nmX1 rfl (by decide) wd_222 rfl rfl dX1_init_37 e37 ?_
  refine mm_aload_n C (pc := 40) 0 dX1_init_40 rfl ?_
  refine mm_iconst C (pc := 41) (v := (3 : Int32)) dX1_init_41 (by decide) ?_
  replace hK := mm_b2s hK; obtain ⟨v42, h42, e42, hK⟩ := hK
  refine mm_newI C (pc := 42) wd_200 dX1_init_42 e42 ?_
  replace hK := mm_bd hK; obtain ⟨h44, e44, hK⟩ := hK
  refine mm_putr C (pc := 44) (k := 5) true (fun _ => ⟨rfl, rfl⟩) inGX1 tyX1 tyX1_ok nmX1 rfl (by decide) wd_223 rfl rfl dX1_init_44 e44 ?_
  cases hK
  exact mm_vret C (pc := 47) rfl dX1_init_47 rfl rfl
theorem wd_211 : Cond.methodLink RX4 3 Lib.objectInit ∈ lw_good := mm_wd 211 (by decide +kernel) (by decide +kernel)
theorem wd_212 : Cond.classLink RX4 9 RX1 ∈ lw_good := mm_wd 212 (by decide +kernel) (by decide +kernel)
theorem wd_213 : Cond.instantiable RX1 6 ∈ lw_good := mm_wd 213 (by decide +kernel) (by decide +kernel)
theorem wd_145 : Cond.initialized RX1 ∈ lw_good := mm_wd 145 (by decide +kernel) (by decide +kernel)
theorem wd_216 : Cond.code yX1_init cX1_init 1 none ∈ lw_good := mm_wd 216 (by decide +kernel) (by decide +kernel)
theorem tT_X1_init : mm_T yX1_init cX1_init 1 none 0 := ⟨wd_216, wd_145, by decide +kernel, by decide +kernel, by decide +kernel, by decide +kernel⟩
theorem wd_214 : Cond.methodLinkNest RX4 11 yX1_init "CrossedLines" ∈ mm_nw := mm_wn 214 (by decide +kernel) (by decide +kernel)
theorem wd_215 : Cond.instanceMethod yX1_init ∈ lw_good := mm_wd 215 (by decide +kernel) (by decide +kernel)
theorem wd_237 : Cond.fieldLink RX4 12 "CrossedLines$Fitting" "course" "LCrossedLines$Course;" ∈ lw_good := mm_wd 237 (by decide +kernel) (by decide +kernel)
theorem inGX4 : ∀ w ∈ u_ws RX4 TX4 8, w ∈ lw_good := mm_ws [245, 247, 249, 251, 253, 255, 257, 259] (by decide +kernel) (by decide +kernel)
theorem wd_238 : Cond.fieldLink RX4 18 "CrossedLines$Fitting" "takes" "[I" ∈ lw_good := mm_wd 238 (by decide +kernel) (by decide +kernel)
theorem wd_239 : Cond.fieldLink RX4 22 "CrossedLines$Fitting" "used" "[I" ∈ lw_good := mm_wd 239 (by decide +kernel) (by decide +kernel)
theorem wd_240 : Cond.fieldLink RX4 25 "CrossedLines$Fitting" "meets" "[I" ∈ lw_good := mm_wd 240 (by decide +kernel) (by decide +kernel)
theorem wd_241 : Cond.fieldLink RX4 28 "CrossedLines$Fitting" "clashes" "[I" ∈ lw_good := mm_wd 241 (by decide +kernel) (by decide +kernel)
theorem wd_242 : Cond.fieldLink RX4 31 "CrossedLines$Fitting" "cords" "I" ∈ lw_good := mm_wd 242 (by decide +kernel) (by decide +kernel)
theorem wd_243 : Cond.fieldLink RX4 35 "CrossedLines$Fitting" "most" "I" ∈ lw_good := mm_wd 243 (by decide +kernel) (by decide +kernel)
theorem wd_244 : Cond.fieldLink RX4 38 "CrossedLines$Fitting" "mostBits" "I" ∈ lw_good := mm_wd 244 (by decide +kernel) (by decide +kernel)
def F_X4_init (a0 : Option Nat) (h : MH) : Option MH := a0.bind fun b1 => mm_b2 (nO h 1 [.null, .int 0, .null, .null, .null, .null] 6) fun v5 h5 => v5.bind fun b9 => (F_X1_init (some b9) h5).bind fun h9 => (pR h9 (some b1) 4 0 (some b9)).bind fun h12 => mm_b2 (nI_ h12 0 (3 : Int32)) fun v17 h17 => (pR h17 (some b1) 4 1 v17).bind fun h19 => mm_b2 (nI_ h19 0 (3 : Int32)) fun v24 h24 => (pR h24 (some b1) 4 2 v24).bind fun h26 => mm_b2 (nI_ h26 0 (10 : Int32)) fun v32 h32 => (pR h32 (some b1) 4 3 v32).bind fun h34 => mm_b2 (nI_ h34 0 (10 : Int32)) fun v40 h40 => (pR h40 (some b1) 4 4 v40).bind fun h42 => (pI h42 (some b1) 4 5 (0 : Int32)).bind fun h47 => (pI h47 (some b1) 4 6 (0 : Int32)).bind fun h52 => (pI h52 (some b1) 4 7 (0 : Int32)).bind fun h57 => some h57
set_option maxRecDepth 20000 in
set_option maxHeartbeats 4000000 in
theorem S_X4_init {d : Nat} (hd : 2 ≤ d) {a0 : Option Nat} {h : MH} {hz : MH} (hK : F_X4_init a0 h = some hz) : mm_M yX4_init cX4_init 1 none d [va_rf a0] h (.inr none) hz := by
  refine mm_ofV (by decide +kernel) (by simp [lg_sl, mm_crf, mm_cti, mm_ctl]) (fun V C => ?_)
  rw [show lv_args 0 [va_rf a0] = [(0, va_rf a0)] by simp [lv_args, mm_crf, mm_cti, mm_ctl]]
  unfold F_X4_init at hK
  refine mm_aload_n C (pc := 0) 0 dX4_init_0 rfl ?_
  replace hK := mm_bd hK; obtain ⟨b1, e1, hK⟩ := hK
  subst e1
  refine mm_objInit C (pc := 1) wd_211 wd_181 wd_182 (by omega) (by simp [mm_crf, mm_cti, mm_ctl]) dX4_init_1 ?_
  refine mm_aload_n C (pc := 4) 0 dX4_init_4 rfl ?_
  replace hK := mm_b2s hK; obtain ⟨v5, h5, e5, hK⟩ := hK
  refine mm_new C (pc := 5) inGX1 tyX1 tyX1_ok rfl wd_212 wd_213 wd_145 (mm_dv (by decide)) (fun _ => rfl) dX4_init_5 e5 ?_
  refine mm_dup C (pc := 8) dX4_init_8 mm_crf ?_
  replace hK := mm_bd hK; obtain ⟨b9, e9, hK⟩ := hK
  subst e9
  replace hK := mm_bd hK; obtain ⟨h9, f9, hK⟩ := hK
  refine mm_callI C (pc := 9) (d1 := 1) (As := []) (st := [va_rf (some b9), va_rf (some b1)]) true ((S_X1_init (by omega)) f9) tT_X1_init rfl wd_214 wd_215 (by omega) (by decide) rfl (by simp [mm_crf, mm_cti, mm_ctl]) rfl dX4_init_9 ?_
  replace hK := mm_bd hK; obtain ⟨h12, e12, hK⟩ := hK
  refine mm_putr C (pc := 12) (k := 0) true (fun _ => ⟨rfl, rfl⟩) inGX4 tyX4 tyX4_ok nmX4 rfl (by decide) wd_237 rfl rfl dX4_init_12 e12 ?_
  refine mm_aload_n C (pc := 15) 0 dX4_init_15 rfl ?_
  refine mm_iconst C (pc := 16) (v := (3 : Int32)) dX4_init_16 (by decide) ?_
  replace hK := mm_b2s hK; obtain ⟨v17, h17, e17, hK⟩ := hK
  refine mm_newI C (pc := 17) wd_200 dX4_init_17 e17 ?_
  replace hK := mm_bd hK; obtain ⟨h19, e19, hK⟩ := hK
  refine mm_putr C (pc := 19) (k := 1) true (fun _ => ⟨rfl, rfl⟩) inGX4 tyX4 tyX4_ok nmX4 rfl (by decide) wd_238 rfl rfl dX4_init_19 e19 ?_
  refine mm_aload_n C (pc := 22) 0 dX4_init_22 rfl ?_
  refine mm_iconst C (pc := 23) (v := (3 : Int32)) dX4_init_23 (by decide) ?_
  replace hK := mm_b2s hK; obtain ⟨v24, h24, e24, hK⟩ := hK
  refine mm_newI C (pc := 24) wd_200 dX4_init_24 e24 ?_
  replace hK := mm_bd hK; obtain ⟨h26, e26, hK⟩ := hK
  refine mm_putr C (pc := 26) (k := 2) true (fun _ => ⟨rfl, rfl⟩) inGX4 tyX4 tyX4_ok nmX4 rfl (by decide) wd_239 rfl rfl dX4_init_26 e26 ?_
  refine mm_aload_n C (pc := 29) 0 dX4_init_29 rfl ?_
  refine mm_bipush C (pc := 30) (v := (10 : Int32)) dX4_init_30 (by decide) ?_
  replace hK := mm_b2s hK; obtain ⟨v32, h32, e32, hK⟩ := hK
  refine mm_newI C (pc := 32) wd_200 dX4_init_32 e32 ?_
  replace hK := mm_bd hK; obtain ⟨h34, e34, hK⟩ := hK
  refine mm_putr C (pc := 34) (k := 3) true (fun _ => ⟨rfl, rfl⟩) inGX4 tyX4 tyX4_ok nmX4 rfl (by decide) wd_240 rfl rfl dX4_init_34 e34 ?_
  refine mm_aload_n C (pc := 37) 0 dX4_init_37 rfl ?_
  refine mm_bipush C (pc := 38) (v := (10 : Int32)) dX4_init_38 (by decide) ?_
  replace hK := mm_b2s hK; obtain ⟨v40, h40, e40, hK⟩ := hK
  refine mm_newI C (pc := 40) wd_200 dX4_init_40 e40 ?_
  replace hK := mm_bd hK; obtain ⟨h42, e42, hK⟩ := hK
  refine mm_putr C (pc := 42) (k := 4) true (fun _ => ⟨rfl, rfl⟩) inGX4 tyX4 tyX4_ok nmX4 rfl (by decide) wd_241 rfl rfl dX4_init_42 e42 ?_
  refine mm_aload_n C (pc := 45) 0 dX4_init_45 rfl ?_
  refine mm_iconst C (pc := 46) (v := (0 : Int32)) dX4_init_46 (by decide) ?_
  replace hK := mm_bd hK; obtain ⟨h47, e47, hK⟩ := hK
  refine mm_puti C (pc := 47) (k := 5) false (fun z => by cases z) inGX4 tyX4 tyX4_ok nmX4 rfl (by decide) wd_242 rfl rfl dX4_init_47 e47 ?_
  refine mm_aload_n C (pc := 50) 0 dX4_init_50 rfl ?_
  refine mm_iconst C (pc := 51) (v := (0 : Int32)) dX4_init_51 (by decide) ?_
  replace hK := mm_bd hK; obtain ⟨h52, e52, hK⟩ := hK
  refine mm_puti C (pc := 52) (k := 6) false (fun z => by cases z) inGX4 tyX4 tyX4_ok nmX4 rfl (by decide) wd_243 rfl rfl dX4_init_52 e52 ?_
  refine mm_aload_n C (pc := 55) 0 dX4_init_55 rfl ?_
  refine mm_iconst C (pc := 56) (v := (0 : Int32)) dX4_init_56 (by decide) ?_
  replace hK := mm_bd hK; obtain ⟨h57, e57, hK⟩ := hK
  refine mm_puti C (pc := 57) (k := 7) false (fun z => by cases z) inGX4 tyX4 tyX4_ok nmX4 rfl (by decide) wd_244 rfl rfl dX4_init_57 e57 ?_
  cases hK
  exact mm_vret C (pc := 60) rfl dX4_init_60 rfl rfl
theorem wd_267 : Cond.methodLink RX2 3 Lib.objectInit ∈ lw_good := mm_wd 267 (by decide +kernel) (by decide +kernel)
theorem wd_268 : Cond.classLink RX2 9 RX1 ∈ lw_good := mm_wd 268 (by decide +kernel) (by decide +kernel)
theorem wd_269 : Cond.methodLinkNest RX2 11 yX1_init "CrossedLines" ∈ mm_nw := mm_wn 269 (by decide +kernel) (by decide +kernel)
theorem wd_270 : Cond.fieldLink RX2 12 "CrossedLines$Crossing" "course" "LCrossedLines$Course;" ∈ lw_good := mm_wd 270 (by decide +kernel) (by decide +kernel)
theorem inGX2 : ∀ w ∈ u_ws RX2 TX2 6, w ∈ lw_good := mm_ws [276, 278, 280, 282, 284, 286] (by decide +kernel) (by decide +kernel)
theorem wd_271 : Cond.fieldLink RX2 18 "CrossedLines$Crossing" "byLaw" "[I" ∈ lw_good := mm_wd 271 (by decide +kernel) (by decide +kernel)
theorem wd_272 : Cond.fieldLink RX2 22 "CrossedLines$Crossing" "comes" "[I" ∈ lw_good := mm_wd 272 (by decide +kernel) (by decide +kernel)
theorem wd_273 : Cond.fieldLink RX2 25 "CrossedLines$Crossing" "picks" "[I" ∈ lw_good := mm_wd 273 (by decide +kernel) (by decide +kernel)
theorem wd_274 : Cond.fieldLink RX2 28 "CrossedLines$Crossing" "first" "[I" ∈ lw_good := mm_wd 274 (by decide +kernel) (by decide +kernel)
theorem wd_275 : Cond.fieldLink RX2 31 "CrossedLines$Crossing" "ways" "I" ∈ lw_good := mm_wd 275 (by decide +kernel) (by decide +kernel)
def F_X2_init (a0 : Option Nat) (h : MH) : Option MH := a0.bind fun b1 => mm_b2 (nO h 1 [.null, .int 0, .null, .null, .null, .null] 6) fun v5 h5 => v5.bind fun b9 => (F_X1_init (some b9) h5).bind fun h9 => (pR h9 (some b1) 2 0 (some b9)).bind fun h12 => mm_b2 (nI_ h12 0 (10 : Int32)) fun v18 h18 => (pR h18 (some b1) 2 1 v18).bind fun h20 => mm_b2 (nI_ h20 0 (10 : Int32)) fun v26 h26 => (pR h26 (some b1) 2 2 v26).bind fun h28 => mm_b2 (nI_ h28 0 (3 : Int32)) fun v33 h33 => (pR h33 (some b1) 2 3 v33).bind fun h35 => mm_b2 (nI_ h35 0 (3 : Int32)) fun v40 h40 => (pR h40 (some b1) 2 4 v40).bind fun h42 => (pI h42 (some b1) 2 5 (0 : Int32)).bind fun h47 => some h47
set_option maxRecDepth 20000 in
set_option maxHeartbeats 4000000 in
theorem S_X2_init {d : Nat} (hd : 2 ≤ d) {a0 : Option Nat} {h : MH} {hz : MH} (hK : F_X2_init a0 h = some hz) : mm_M yX2_init cX2_init 1 none d [va_rf a0] h (.inr none) hz := by
  refine mm_ofV (by decide +kernel) (by simp [lg_sl, mm_crf, mm_cti, mm_ctl]) (fun V C => ?_)
  rw [show lv_args 0 [va_rf a0] = [(0, va_rf a0)] by simp [lv_args, mm_crf, mm_cti, mm_ctl]]
  unfold F_X2_init at hK
  refine mm_aload_n C (pc := 0) 0 dX2_init_0 rfl ?_
  replace hK := mm_bd hK; obtain ⟨b1, e1, hK⟩ := hK
  subst e1
  refine mm_objInit C (pc := 1) wd_267 wd_181 wd_182 (by omega) (by simp [mm_crf, mm_cti, mm_ctl]) dX2_init_1 ?_
  refine mm_aload_n C (pc := 4) 0 dX2_init_4 rfl ?_
  replace hK := mm_b2s hK; obtain ⟨v5, h5, e5, hK⟩ := hK
  refine mm_new C (pc := 5) inGX1 tyX1 tyX1_ok rfl wd_268 wd_213 wd_145 (mm_dv (by decide)) (fun _ => rfl) dX2_init_5 e5 ?_
  refine mm_dup C (pc := 8) dX2_init_8 mm_crf ?_
  replace hK := mm_bd hK; obtain ⟨b9, e9, hK⟩ := hK
  subst e9
  replace hK := mm_bd hK; obtain ⟨h9, f9, hK⟩ := hK
  refine mm_callI C (pc := 9) (d1 := 1) (As := []) (st := [va_rf (some b9), va_rf (some b1)]) true ((S_X1_init (by omega)) f9) tT_X1_init rfl wd_269 wd_215 (by omega) (by decide) rfl (by simp [mm_crf, mm_cti, mm_ctl]) rfl dX2_init_9 ?_
  replace hK := mm_bd hK; obtain ⟨h12, e12, hK⟩ := hK
  refine mm_putr C (pc := 12) (k := 0) true (fun _ => ⟨rfl, rfl⟩) inGX2 tyX2 tyX2_ok nmX2 rfl (by decide) wd_270 rfl rfl dX2_init_12 e12 ?_
  refine mm_aload_n C (pc := 15) 0 dX2_init_15 rfl ?_
  refine mm_bipush C (pc := 16) (v := (10 : Int32)) dX2_init_16 (by decide) ?_
  replace hK := mm_b2s hK; obtain ⟨v18, h18, e18, hK⟩ := hK
  refine mm_newI C (pc := 18) wd_200 dX2_init_18 e18 ?_
  replace hK := mm_bd hK; obtain ⟨h20, e20, hK⟩ := hK
  refine mm_putr C (pc := 20) (k := 1) true (fun _ => ⟨rfl, rfl⟩) inGX2 tyX2 tyX2_ok nmX2 rfl (by decide) wd_271 rfl rfl dX2_init_20 e20 ?_
  refine mm_aload_n C (pc := 23) 0 dX2_init_23 rfl ?_
  refine mm_bipush C (pc := 24) (v := (10 : Int32)) dX2_init_24 (by decide) ?_
  replace hK := mm_b2s hK; obtain ⟨v26, h26, e26, hK⟩ := hK
  refine mm_newI C (pc := 26) wd_200 dX2_init_26 e26 ?_
  replace hK := mm_bd hK; obtain ⟨h28, e28, hK⟩ := hK
  refine mm_putr C (pc := 28) (k := 2) true (fun _ => ⟨rfl, rfl⟩) inGX2 tyX2 tyX2_ok nmX2 rfl (by decide) wd_272 rfl rfl dX2_init_28 e28 ?_
  refine mm_aload_n C (pc := 31) 0 dX2_init_31 rfl ?_
  refine mm_iconst C (pc := 32) (v := (3 : Int32)) dX2_init_32 (by decide) ?_
  replace hK := mm_b2s hK; obtain ⟨v33, h33, e33, hK⟩ := hK
  refine mm_newI C (pc := 33) wd_200 dX2_init_33 e33 ?_
  replace hK := mm_bd hK; obtain ⟨h35, e35, hK⟩ := hK
  refine mm_putr C (pc := 35) (k := 3) true (fun _ => ⟨rfl, rfl⟩) inGX2 tyX2 tyX2_ok nmX2 rfl (by decide) wd_273 rfl rfl dX2_init_35 e35 ?_
  refine mm_aload_n C (pc := 38) 0 dX2_init_38 rfl ?_
  refine mm_iconst C (pc := 39) (v := (3 : Int32)) dX2_init_39 (by decide) ?_
  replace hK := mm_b2s hK; obtain ⟨v40, h40, e40, hK⟩ := hK
  refine mm_newI C (pc := 40) wd_200 dX2_init_40 e40 ?_
  replace hK := mm_bd hK; obtain ⟨h42, e42, hK⟩ := hK
  refine mm_putr C (pc := 42) (k := 4) true (fun _ => ⟨rfl, rfl⟩) inGX2 tyX2 tyX2_ok nmX2 rfl (by decide) wd_274 rfl rfl dX2_init_42 e42 ?_
  refine mm_aload_n C (pc := 45) 0 dX2_init_45 rfl ?_
  refine mm_iconst C (pc := 46) (v := (0 : Int32)) dX2_init_46 (by decide) ?_
  replace hK := mm_bd hK; obtain ⟨h47, e47, hK⟩ := hK
  refine mm_puti C (pc := 47) (k := 5) false (fun z => by cases z) inGX2 tyX2 tyX2_ok nmX2 rfl (by decide) wd_275 rfl rfl dX2_init_47 e47 ?_
  cases hK
  exact mm_vret C (pc := 50) rfl dX2_init_50 rfl rfl
theorem wd_294 : Cond.methodLink RX6 3 Lib.objectInit ∈ lw_good := mm_wd 294 (by decide +kernel) (by decide +kernel)
theorem wd_295 : Cond.fieldLink RX6 9 "CrossedLines$Pairs" "with" "[I" ∈ lw_good := mm_wd 295 (by decide +kernel) (by decide +kernel)
theorem inGX6 : ∀ w ∈ u_ws RX6 TX6 8, w ∈ lw_good := mm_ws [303, 305, 307, 309, 311, 313, 315, 317] (by decide +kernel) (by decide +kernel)
theorem wd_296 : Cond.fieldLink RX6 15 "CrossedLines$Pairs" "steady" "[I" ∈ lw_good := mm_wd 296 (by decide +kernel) (by decide +kernel)
theorem wd_297 : Cond.fieldLink RX6 18 "CrossedLines$Pairs" "happy" "[I" ∈ lw_good := mm_wd 297 (by decide +kernel) (by decide +kernel)
theorem wd_298 : Cond.fieldLink RX6 21 "CrossedLines$Pairs" "plan" "LCrossedLines$Plan;" ∈ lw_good := mm_wd 298 (by decide +kernel) (by decide +kernel)
theorem wd_299 : Cond.fieldLink RX6 25 "CrossedLines$Pairs" "someoneLeft" "Z" ∈ lw_good := mm_wd 299 (by decide +kernel) (by decide +kernel)
theorem wd_300 : Cond.fieldLink RX6 29 "CrossedLines$Pairs" "steadyWays" "I" ∈ lw_good := mm_wd 300 (by decide +kernel) (by decide +kernel)
theorem wd_301 : Cond.fieldLink RX6 33 "CrossedLines$Pairs" "anyHappy" "Z" ∈ lw_good := mm_wd 301 (by decide +kernel) (by decide +kernel)
theorem wd_302 : Cond.fieldLink RX6 36 "CrossedLines$Pairs" "happySum" "I" ∈ lw_good := mm_wd 302 (by decide +kernel) (by decide +kernel)
def F_X6_init (a0 : Option Nat) (h : MH) : Option MH := a0.bind fun b1 => mm_b2 (nI_ h 0 (8 : Int32)) fun v7 h7 => (pR h7 (some b1) 6 0 v7).bind fun h9 => mm_b2 (nI_ h9 0 (8 : Int32)) fun v15 h15 => (pR h15 (some b1) 6 1 v15).bind fun h17 => mm_b2 (nI_ h17 0 (8 : Int32)) fun v23 h23 => (pR h23 (some b1) 6 2 v23).bind fun h25 => (pR h25 (some b1) 6 3 (none : Option Nat)).bind fun h30 => (pZ h30 (some b1) 6 4 (0 : Int32)).bind fun h35 => (pI h35 (some b1) 6 5 (0 : Int32)).bind fun h40 => (pZ h40 (some b1) 6 6 (0 : Int32)).bind fun h45 => (pI h45 (some b1) 6 7 (0 : Int32)).bind fun h50 => some h50
set_option maxRecDepth 20000 in
set_option maxHeartbeats 4000000 in
theorem S_X6_init {d : Nat} (hd : 1 ≤ d) {a0 : Option Nat} {h : MH} {hz : MH} (hK : F_X6_init a0 h = some hz) : mm_M yX6_init cX6_init 1 none d [va_rf a0] h (.inr none) hz := by
  refine mm_ofV (by decide +kernel) (by simp [lg_sl, mm_crf, mm_cti, mm_ctl]) (fun V C => ?_)
  rw [show lv_args 0 [va_rf a0] = [(0, va_rf a0)] by simp [lv_args, mm_crf, mm_cti, mm_ctl]]
  unfold F_X6_init at hK
  refine mm_aload_n C (pc := 0) 0 dX6_init_0 rfl ?_
  replace hK := mm_bd hK; obtain ⟨b1, e1, hK⟩ := hK
  subst e1
  refine mm_objInit C (pc := 1) wd_294 wd_181 wd_182 (by omega) (by simp [mm_crf, mm_cti, mm_ctl]) dX6_init_1 ?_
  refine mm_aload_n C (pc := 4) 0 dX6_init_4 rfl ?_
  refine mm_bipush C (pc := 5) (v := (8 : Int32)) dX6_init_5 (by decide) ?_
  replace hK := mm_b2s hK; obtain ⟨v7, h7, e7, hK⟩ := hK
  refine mm_newI C (pc := 7) wd_200 dX6_init_7 e7 ?_
  replace hK := mm_bd hK; obtain ⟨h9, e9, hK⟩ := hK
  refine mm_putr C (pc := 9) (k := 0) true (fun _ => ⟨rfl, rfl⟩) inGX6 tyX6 tyX6_ok nmX6 rfl (by decide) wd_295 rfl rfl dX6_init_9 e9 ?_
  refine mm_aload_n C (pc := 12) 0 dX6_init_12 rfl ?_
  refine mm_bipush C (pc := 13) (v := (8 : Int32)) dX6_init_13 (by decide) ?_
  replace hK := mm_b2s hK; obtain ⟨v15, h15, e15, hK⟩ := hK
  refine mm_newI C (pc := 15) wd_200 dX6_init_15 e15 ?_
  replace hK := mm_bd hK; obtain ⟨h17, e17, hK⟩ := hK
  refine mm_putr C (pc := 17) (k := 1) true (fun _ => ⟨rfl, rfl⟩) inGX6 tyX6 tyX6_ok nmX6 rfl (by decide) wd_296 rfl rfl dX6_init_17 e17 ?_
  refine mm_aload_n C (pc := 20) 0 dX6_init_20 rfl ?_
  refine mm_bipush C (pc := 21) (v := (8 : Int32)) dX6_init_21 (by decide) ?_
  replace hK := mm_b2s hK; obtain ⟨v23, h23, e23, hK⟩ := hK
  refine mm_newI C (pc := 23) wd_200 dX6_init_23 e23 ?_
  replace hK := mm_bd hK; obtain ⟨h25, e25, hK⟩ := hK
  refine mm_putr C (pc := 25) (k := 2) true (fun _ => ⟨rfl, rfl⟩) inGX6 tyX6 tyX6_ok nmX6 rfl (by decide) wd_297 rfl rfl dX6_init_25 e25 ?_
  refine mm_aload_n C (pc := 28) 0 dX6_init_28 rfl ?_
  refine mm_null C (pc := 29) dX6_init_29 ?_
  replace hK := mm_bd hK; obtain ⟨h30, e30, hK⟩ := hK
  refine mm_putr C (pc := 30) (k := 3) false (fun z => by cases z) inGX6 tyX6 tyX6_ok nmX6 rfl (by decide) wd_298 rfl rfl dX6_init_30 e30 ?_
  refine mm_aload_n C (pc := 33) 0 dX6_init_33 rfl ?_
  refine mm_iconst C (pc := 34) (v := (0 : Int32)) dX6_init_34 (by decide) ?_
  replace hK := mm_bd hK; obtain ⟨h35, e35, hK⟩ := hK
  refine mm_putz C (pc := 35) (k := 4) false (fun z => by cases z) inGX6 tyX6 tyX6_ok nmX6 rfl (by decide) wd_299 rfl rfl dX6_init_35 e35 ?_
  refine mm_aload_n C (pc := 38) 0 dX6_init_38 rfl ?_
  refine mm_iconst C (pc := 39) (v := (0 : Int32)) dX6_init_39 (by decide) ?_
  replace hK := mm_bd hK; obtain ⟨h40, e40, hK⟩ := hK
  refine mm_puti C (pc := 40) (k := 5) false (fun z => by cases z) inGX6 tyX6 tyX6_ok nmX6 rfl (by decide) wd_300 rfl rfl dX6_init_40 e40 ?_
  refine mm_aload_n C (pc := 43) 0 dX6_init_43 rfl ?_
  refine mm_iconst C (pc := 44) (v := (0 : Int32)) dX6_init_44 (by decide) ?_
  replace hK := mm_bd hK; obtain ⟨h45, e45, hK⟩ := hK
  refine mm_putz C (pc := 45) (k := 6) false (fun z => by cases z) inGX6 tyX6 tyX6_ok nmX6 rfl (by decide) wd_301 rfl rfl dX6_init_45 e45 ?_
  refine mm_aload_n C (pc := 48) 0 dX6_init_48 rfl ?_
  refine mm_iconst C (pc := 49) (v := (0 : Int32)) dX6_init_49 (by decide) ?_
  replace hK := mm_bd hK; obtain ⟨h50, e50, hK⟩ := hK
  refine mm_puti C (pc := 50) (k := 7) false (fun z => by cases z) inGX6 tyX6 tyX6_ok nmX6 rfl (by decide) wd_302 rfl rfl dX6_init_50 e50 ?_
  cases hK
  exact mm_vret C (pc := 53) rfl dX6_init_53 rfl rfl
theorem wd_327 : Cond.methodLink RX9 1 Lib.objectInit ∈ lw_good := mm_wd 327 (by decide +kernel) (by decide +kernel)
theorem wd_329 : Cond.fieldLink RX9 7 "CrossedLines$Tokens" "length" "I" ∈ lw_good := mm_wd 329 (by decide +kernel) (by decide +kernel)
theorem inGX9 : ∀ w ∈ u_ws RX9 TX9 6, w ∈ lw_good := mm_ws [334, 336, 338, 340, 342, 344] (by decide +kernel) (by decide +kernel)
theorem wd_330 : Cond.fieldLink RX9 13 "CrossedLines$Tokens" "next" "I" ∈ lw_good := mm_wd 330 (by decide +kernel) (by decide +kernel)
theorem wd_331 : Cond.fieldLink RX9 16 "CrossedLines$Tokens" "start" "I" ∈ lw_good := mm_wd 331 (by decide +kernel) (by decide +kernel)
theorem wd_332 : Cond.fieldLink RX9 19 "CrossedLines$Tokens" "kind" "I" ∈ lw_good := mm_wd 332 (by decide +kernel) (by decide +kernel)
theorem wd_333 : Cond.fieldLink RX9 22 "CrossedLines$Tokens" "value" "I" ∈ lw_good := mm_wd 333 (by decide +kernel) (by decide +kernel)
theorem wd_328 : Cond.fieldLink RX9 25 "CrossedLines$Tokens" "text" "[B" ∈ lw_good := mm_wd 328 (by decide +kernel) (by decide +kernel)
def F_X9_init (a0 : Option Nat) (a1 : Option Nat) (h : MH) : Option MH := a0.bind fun b1 => (pI h (some b1) 9 1 (0 : Int32)).bind fun h6 => (pI h6 (some b1) 9 2 (0 : Int32)).bind fun h11 => (pI h11 (some b1) 9 3 (0 : Int32)).bind fun h16 => (pI h16 (some b1) 9 4 (0 : Int32)).bind fun h21 => (pI h21 (some b1) 9 5 (0 : Int32)).bind fun h26 => (pR h26 (some b1) 9 0 a1).bind fun h31 => some h31
set_option maxRecDepth 20000 in
set_option maxHeartbeats 4000000 in
theorem S_X9_init {d : Nat} (hd : 1 ≤ d) {a0 : Option Nat} {a1 : Option Nat} {h : MH} {hz : MH} (hK : F_X9_init a0 a1 h = some hz) : mm_M yX9_init cX9_init 2 none d [va_rf a0, va_rf a1] h (.inr none) hz := by
  refine mm_ofV (by decide +kernel) (by simp [lg_sl, mm_crf, mm_cti, mm_ctl]) (fun V C => ?_)
  rw [show lv_args 0 [va_rf a0, va_rf a1] = [(0, va_rf a0), (1, va_rf a1)] by simp [lv_args, mm_crf, mm_cti, mm_ctl]]
  unfold F_X9_init at hK
  refine mm_aload_n C (pc := 0) 0 dX9_init_0 rfl ?_
  replace hK := mm_bd hK; obtain ⟨b1, e1, hK⟩ := hK
  subst e1
  refine mm_objInit C (pc := 1) wd_327 wd_181 wd_182 (by omega) (by simp [mm_crf, mm_cti, mm_ctl]) dX9_init_1 ?_
  refine mm_aload_n C (pc := 4) 0 dX9_init_4 rfl ?_
  refine mm_iconst C (pc := 5) (v := (0 : Int32)) dX9_init_5 (by decide) ?_
  replace hK := mm_bd hK; obtain ⟨h6, e6, hK⟩ := hK
  refine mm_puti C (pc := 6) (k := 1) false (fun z => by cases z) inGX9 tyX9 tyX9_ok nmX9 rfl (by decide) wd_329 rfl rfl dX9_init_6 e6 ?_
  refine mm_aload_n C (pc := 9) 0 dX9_init_9 rfl ?_
  refine mm_iconst C (pc := 10) (v := (0 : Int32)) dX9_init_10 (by decide) ?_
  replace hK := mm_bd hK; obtain ⟨h11, e11, hK⟩ := hK
  refine mm_puti C (pc := 11) (k := 2) false (fun z => by cases z) inGX9 tyX9 tyX9_ok nmX9 rfl (by decide) wd_330 rfl rfl dX9_init_11 e11 ?_
  refine mm_aload_n C (pc := 14) 0 dX9_init_14 rfl ?_
  refine mm_iconst C (pc := 15) (v := (0 : Int32)) dX9_init_15 (by decide) ?_
  replace hK := mm_bd hK; obtain ⟨h16, e16, hK⟩ := hK
  refine mm_puti C (pc := 16) (k := 3) false (fun z => by cases z) inGX9 tyX9 tyX9_ok nmX9 rfl (by decide) wd_331 rfl rfl dX9_init_16 e16 ?_
  refine mm_aload_n C (pc := 19) 0 dX9_init_19 rfl ?_
  refine mm_iconst C (pc := 20) (v := (0 : Int32)) dX9_init_20 (by decide) ?_
  replace hK := mm_bd hK; obtain ⟨h21, e21, hK⟩ := hK
  refine mm_puti C (pc := 21) (k := 4) false (fun z => by cases z) inGX9 tyX9 tyX9_ok nmX9 rfl (by decide) wd_332 rfl rfl dX9_init_21 e21 ?_
  refine mm_aload_n C (pc := 24) 0 dX9_init_24 rfl ?_
  refine mm_iconst C (pc := 25) (v := (0 : Int32)) dX9_init_25 (by decide) ?_
  replace hK := mm_bd hK; obtain ⟨h26, e26, hK⟩ := hK
  refine mm_puti C (pc := 26) (k := 5) false (fun z => by cases z) inGX9 tyX9 tyX9_ok nmX9 rfl (by decide) wd_333 rfl rfl dX9_init_26 e26 ?_
  refine mm_aload_n C (pc := 29) 0 dX9_init_29 rfl ?_
  refine mm_aload_n C (pc := 30) 1 dX9_init_30 rfl ?_
  replace hK := mm_bd hK; obtain ⟨h31, e31, hK⟩ := hK
  refine mm_putr C (pc := 31) (k := 0) true (fun _ => ⟨rfl, rfl⟩) inGX9 tyX9 tyX9_ok nmX9 rfl (by decide) wd_328 rfl rfl dX9_init_31 e31 ?_
  cases hK
  exact mm_vret C (pc := 34) rfl dX9_init_34 rfl rfl
theorem wd_350 : Cond.methodLink RX7 3 Lib.objectInit ∈ lw_good := mm_wd 350 (by decide +kernel) (by decide +kernel)
theorem wd_352 : Cond.fieldLink RX7 9 "CrossedLines$Parser" "reach" "[I" ∈ lw_good := mm_wd 352 (by decide +kernel) (by decide +kernel)
theorem inGX7 : ∀ w ∈ u_ws RX7 TX7 15, w ∈ lw_good := mm_ws [366, 368, 370, 372, 374, 376, 378, 380, 382, 384, 386, 388, 390, 392, 394] (by decide +kernel) (by decide +kernel)
theorem wd_353 : Cond.fieldLink RX7 15 "CrossedLines$Parser" "told" "[I" ∈ lw_good := mm_wd 353 (by decide +kernel) (by decide +kernel)
theorem wd_354 : Cond.fieldLink RX7 18 "CrossedLines$Parser" "code" "[I" ∈ lw_good := mm_wd 354 (by decide +kernel) (by decide +kernel)
theorem wd_355 : Cond.fieldLink RX7 21 "CrossedLines$Parser" "lawFrom" "[I" ∈ lw_good := mm_wd 355 (by decide +kernel) (by decide +kernel)
theorem wd_356 : Cond.fieldLink RX7 24 "CrossedLines$Parser" "lawTill" "[I" ∈ lw_good := mm_wd 356 (by decide +kernel) (by decide +kernel)
theorem wd_357 : Cond.fieldLink RX7 27 "CrossedLines$Parser" "lines" "I" ∈ lw_good := mm_wd 357 (by decide +kernel) (by decide +kernel)
theorem wd_358 : Cond.fieldLink RX7 31 "CrossedLines$Parser" "cords" "I" ∈ lw_good := mm_wd 358 (by decide +kernel) (by decide +kernel)
theorem wd_359 : Cond.fieldLink RX7 34 "CrossedLines$Parser" "calls" "I" ∈ lw_good := mm_wd 359 (by decide +kernel) (by decide +kernel)
theorem wd_360 : Cond.fieldLink RX7 37 "CrossedLines$Parser" "minute" "I" ∈ lw_good := mm_wd 360 (by decide +kernel) (by decide +kernel)
theorem wd_361 : Cond.fieldLink RX7 40 "CrossedLines$Parser" "textLines" "I" ∈ lw_good := mm_wd 361 (by decide +kernel) (by decide +kernel)
theorem wd_362 : Cond.fieldLink RX7 43 "CrossedLines$Parser" "codes" "I" ∈ lw_good := mm_wd 362 (by decide +kernel) (by decide +kernel)
theorem wd_363 : Cond.fieldLink RX7 46 "CrossedLines$Parser" "law" "I" ∈ lw_good := mm_wd 363 (by decide +kernel) (by decide +kernel)
theorem wd_364 : Cond.fieldLink RX7 49 "CrossedLines$Parser" "flaw" "I" ∈ lw_good := mm_wd 364 (by decide +kernel) (by decide +kernel)
theorem wd_365 : Cond.fieldLink RX7 52 "CrossedLines$Parser" "flawPlace" "I" ∈ lw_good := mm_wd 365 (by decide +kernel) (by decide +kernel)
theorem wd_351 : Cond.fieldLink RX7 55 "CrossedLines$Parser" "tokens" "LCrossedLines$Tokens;" ∈ lw_good := mm_wd 351 (by decide +kernel) (by decide +kernel)
def F_X7_init (a0 : Option Nat) (a1 : Option Nat) (h : MH) : Option MH := a0.bind fun b1 => mm_b2 (nI_ h 0 (3 : Int32)) fun v6 h6 => (pR h6 (some b1) 7 1 v6).bind fun h8 => mm_b2 (nI_ h8 0 (40 : Int32)) fun v14 h14 => (pR h14 (some b1) 7 2 v14).bind fun h16 => mm_b2 (nI_ h16 0 (900 : Int32)) fun v23 h23 => (pR h23 (some b1) 7 3 v23).bind fun h25 => mm_b2 (nI_ h25 0 (3 : Int32)) fun v30 h30 => (pR h30 (some b1) 7 4 v30).bind fun h32 => mm_b2 (nI_ h32 0 (3 : Int32)) fun v37 h37 => (pR h37 (some b1) 7 5 v37).bind fun h39 => (pI h39 (some b1) 7 6 (2 : Int32)).bind fun h44 => (pI h44 (some b1) 7 7 (0 : Int32)).bind fun h49 => (pI h49 (some b1) 7 8 (0 : Int32)).bind fun h54 => (pI h54 (some b1) 7 9 (0 : Int32)).bind fun h59 => (pI h59 (some b1) 7 10 (0 : Int32)).bind fun h64 => (pI h64 (some b1) 7 11 (0 : Int32)).bind fun h69 => (pI h69 (some b1) 7 12 (0 : Int32)).bind fun h74 => (pI h74 (some b1) 7 13 (0 : Int32)).bind fun h79 => (pI h79 (some b1) 7 14 ((-1) : Int32)).bind fun h84 => (pR h84 (some b1) 7 0 a1).bind fun h89 => some h89
set_option maxRecDepth 20000 in
set_option maxHeartbeats 4000000 in
theorem S_X7_init {d : Nat} (hd : 1 ≤ d) {a0 : Option Nat} {a1 : Option Nat} {h : MH} {hz : MH} (hK : F_X7_init a0 a1 h = some hz) : mm_M yX7_init cX7_init 2 none d [va_rf a0, va_rf a1] h (.inr none) hz := by
  refine mm_ofV (by decide +kernel) (by simp [lg_sl, mm_crf, mm_cti, mm_ctl]) (fun V C => ?_)
  rw [show lv_args 0 [va_rf a0, va_rf a1] = [(0, va_rf a0), (1, va_rf a1)] by simp [lv_args, mm_crf, mm_cti, mm_ctl]]
  unfold F_X7_init at hK
  refine mm_aload_n C (pc := 0) 0 dX7_init_0 rfl ?_
  replace hK := mm_bd hK; obtain ⟨b1, e1, hK⟩ := hK
  subst e1
  refine mm_objInit C (pc := 1) wd_350 wd_181 wd_182 (by omega) (by simp [mm_crf, mm_cti, mm_ctl]) dX7_init_1 ?_
  refine mm_aload_n C (pc := 4) 0 dX7_init_4 rfl ?_
  refine mm_iconst C (pc := 5) (v := (3 : Int32)) dX7_init_5 (by decide) ?_
  replace hK := mm_b2s hK; obtain ⟨v6, h6, e6, hK⟩ := hK
  refine mm_newI C (pc := 6) wd_200 dX7_init_6 e6 ?_
  replace hK := mm_bd hK; obtain ⟨h8, e8, hK⟩ := hK
  refine mm_putr C (pc := 8) (k := 1) true (fun _ => ⟨rfl, rfl⟩) inGX7 tyX7 tyX7_ok nmX7 rfl (by decide) wd_352 rfl rfl dX7_init_8 e8 ?_
  refine mm_aload_n C (pc := 11) 0 dX7_init_11 rfl ?_
  refine mm_bipush C (pc := 12) (v := (40 : Int32)) dX7_init_12 (by decide) ?_
  replace hK := mm_b2s hK; obtain ⟨v14, h14, e14, hK⟩ := hK
  refine mm_newI C (pc := 14) wd_200 dX7_init_14 e14 ?_
  replace hK := mm_bd hK; obtain ⟨h16, e16, hK⟩ := hK
  refine mm_putr C (pc := 16) (k := 2) true (fun _ => ⟨rfl, rfl⟩) inGX7 tyX7 tyX7_ok nmX7 rfl (by decide) wd_353 rfl rfl dX7_init_16 e16 ?_
  refine mm_aload_n C (pc := 19) 0 dX7_init_19 rfl ?_
  refine mm_sipush C (pc := 20) (v := (900 : Int32)) dX7_init_20 (by decide) ?_
  replace hK := mm_b2s hK; obtain ⟨v23, h23, e23, hK⟩ := hK
  refine mm_newI C (pc := 23) wd_200 dX7_init_23 e23 ?_
  replace hK := mm_bd hK; obtain ⟨h25, e25, hK⟩ := hK
  refine mm_putr C (pc := 25) (k := 3) true (fun _ => ⟨rfl, rfl⟩) inGX7 tyX7 tyX7_ok nmX7 rfl (by decide) wd_354 rfl rfl dX7_init_25 e25 ?_
  refine mm_aload_n C (pc := 28) 0 dX7_init_28 rfl ?_
  refine mm_iconst C (pc := 29) (v := (3 : Int32)) dX7_init_29 (by decide) ?_
  replace hK := mm_b2s hK; obtain ⟨v30, h30, e30, hK⟩ := hK
  refine mm_newI C (pc := 30) wd_200 dX7_init_30 e30 ?_
  replace hK := mm_bd hK; obtain ⟨h32, e32, hK⟩ := hK
  refine mm_putr C (pc := 32) (k := 4) true (fun _ => ⟨rfl, rfl⟩) inGX7 tyX7 tyX7_ok nmX7 rfl (by decide) wd_355 rfl rfl dX7_init_32 e32 ?_
  refine mm_aload_n C (pc := 35) 0 dX7_init_35 rfl ?_
  refine mm_iconst C (pc := 36) (v := (3 : Int32)) dX7_init_36 (by decide) ?_
  replace hK := mm_b2s hK; obtain ⟨v37, h37, e37, hK⟩ := hK
  refine mm_newI C (pc := 37) wd_200 dX7_init_37 e37 ?_
  replace hK := mm_bd hK; obtain ⟨h39, e39, hK⟩ := hK
  refine mm_putr C (pc := 39) (k := 5) true (fun _ => ⟨rfl, rfl⟩) inGX7 tyX7 tyX7_ok nmX7 rfl (by decide) wd_356 rfl rfl dX7_init_39 e39 ?_
  refine mm_aload_n C (pc := 42) 0 dX7_init_42 rfl ?_
  refine mm_iconst C (pc := 43) (v := (2 : Int32)) dX7_init_43 (by decide) ?_
  replace hK := mm_bd hK; obtain ⟨h44, e44, hK⟩ := hK
  refine mm_puti C (pc := 44) (k := 6) false (fun z => by cases z) inGX7 tyX7 tyX7_ok nmX7 rfl (by decide) wd_357 rfl rfl dX7_init_44 e44 ?_
  refine mm_aload_n C (pc := 47) 0 dX7_init_47 rfl ?_
  refine mm_iconst C (pc := 48) (v := (0 : Int32)) dX7_init_48 (by decide) ?_
  replace hK := mm_bd hK; obtain ⟨h49, e49, hK⟩ := hK
  refine mm_puti C (pc := 49) (k := 7) false (fun z => by cases z) inGX7 tyX7 tyX7_ok nmX7 rfl (by decide) wd_358 rfl rfl dX7_init_49 e49 ?_
  refine mm_aload_n C (pc := 52) 0 dX7_init_52 rfl ?_
  refine mm_iconst C (pc := 53) (v := (0 : Int32)) dX7_init_53 (by decide) ?_
  replace hK := mm_bd hK; obtain ⟨h54, e54, hK⟩ := hK
  refine mm_puti C (pc := 54) (k := 8) false (fun z => by cases z) inGX7 tyX7 tyX7_ok nmX7 rfl (by decide) wd_359 rfl rfl dX7_init_54 e54 ?_
  refine mm_aload_n C (pc := 57) 0 dX7_init_57 rfl ?_
  refine mm_iconst C (pc := 58) (v := (0 : Int32)) dX7_init_58 (by decide) ?_
  replace hK := mm_bd hK; obtain ⟨h59, e59, hK⟩ := hK
  refine mm_puti C (pc := 59) (k := 9) false (fun z => by cases z) inGX7 tyX7 tyX7_ok nmX7 rfl (by decide) wd_360 rfl rfl dX7_init_59 e59 ?_
  refine mm_aload_n C (pc := 62) 0 dX7_init_62 rfl ?_
  refine mm_iconst C (pc := 63) (v := (0 : Int32)) dX7_init_63 (by decide) ?_
  replace hK := mm_bd hK; obtain ⟨h64, e64, hK⟩ := hK
  refine mm_puti C (pc := 64) (k := 10) false (fun z => by cases z) inGX7 tyX7 tyX7_ok nmX7 rfl (by decide) wd_361 rfl rfl dX7_init_64 e64 ?_
  refine mm_aload_n C (pc := 67) 0 dX7_init_67 rfl ?_
  refine mm_iconst C (pc := 68) (v := (0 : Int32)) dX7_init_68 (by decide) ?_
  replace hK := mm_bd hK; obtain ⟨h69, e69, hK⟩ := hK
  refine mm_puti C (pc := 69) (k := 11) false (fun z => by cases z) inGX7 tyX7 tyX7_ok nmX7 rfl (by decide) wd_362 rfl rfl dX7_init_69 e69 ?_
  refine mm_aload_n C (pc := 72) 0 dX7_init_72 rfl ?_
  refine mm_iconst C (pc := 73) (v := (0 : Int32)) dX7_init_73 (by decide) ?_
  replace hK := mm_bd hK; obtain ⟨h74, e74, hK⟩ := hK
  refine mm_puti C (pc := 74) (k := 12) false (fun z => by cases z) inGX7 tyX7 tyX7_ok nmX7 rfl (by decide) wd_363 rfl rfl dX7_init_74 e74 ?_
  refine mm_aload_n C (pc := 77) 0 dX7_init_77 rfl ?_
  refine mm_iconst C (pc := 78) (v := (0 : Int32)) dX7_init_78 (by decide) ?_
  replace hK := mm_bd hK; obtain ⟨h79, e79, hK⟩ := hK
  refine mm_puti C (pc := 79) (k := 13) false (fun z => by cases z) inGX7 tyX7 tyX7_ok nmX7 rfl (by decide) wd_364 rfl rfl dX7_init_79 e79 ?_
  refine mm_aload_n C (pc := 82) 0 dX7_init_82 rfl ?_
  refine mm_iconst C (pc := 83) (v := ((-1) : Int32)) dX7_init_83 (by decide) ?_
  replace hK := mm_bd hK; obtain ⟨h84, e84, hK⟩ := hK
  refine mm_puti C (pc := 84) (k := 14) false (fun z => by cases z) inGX7 tyX7 tyX7_ok nmX7 rfl (by decide) wd_365 rfl rfl dX7_init_84 e84 ?_
  refine mm_aload_n C (pc := 87) 0 dX7_init_87 rfl ?_
  refine mm_aload_n C (pc := 88) 1 dX7_init_88 rfl ?_
  replace hK := mm_bd hK; obtain ⟨h89, e89, hK⟩ := hK
  refine mm_putr C (pc := 89) (k := 0) true (fun _ => ⟨rfl, rfl⟩) inGX7 tyX7 tyX7_ok nmX7 rfl (by decide) wd_351 rfl rfl dX7_init_89 e89 ?_
  cases hK
  exact mm_vret C (pc := 92) rfl dX7_init_92 rfl rfl
def F_X7_lines (a0 : Option Nat) (h : MH) : Option (Int32 × MH) := (gI h a0 7 6).bind fun v1 => some (v1, h)
set_option maxRecDepth 20000 in
set_option maxHeartbeats 4000000 in
theorem S_X7_lines {d : Nat} (hd : 1 ≤ d) {a0 : Option Nat} {h : MH} {r : Int32} {hz : MH} (hK : F_X7_lines a0 h = some (r, hz)) : mm_M yX7_lines cX7_lines 1 (some .int) d [va_rf a0] h (.inr (some (.int r))) hz := by
  refine mm_ofV (by decide +kernel) (by simp [lg_sl, mm_crf, mm_cti, mm_ctl]) (fun V C => ?_)
  rw [show lv_args 0 [va_rf a0] = [(0, va_rf a0)] by simp [lv_args, mm_crf, mm_cti, mm_ctl]]
  unfold F_X7_lines at hK
  refine mm_aload_n C (pc := 0) 0 dX7_lines_0 rfl ?_
  replace hK := mm_bd hK; obtain ⟨v1, e1, hK⟩ := hK
  refine mm_geti C (pc := 1) (k := 6) inGX7 rfl (by decide) wd_357 dX7_lines_1 e1 ?_
  cases hK
  exact mm_iret C (pc := 4) rfl dX7_lines_4 rfl rfl
def F_X7_cords (a0 : Option Nat) (h : MH) : Option (Int32 × MH) := (gI h a0 7 7).bind fun v1 => some (v1, h)
set_option maxRecDepth 20000 in
set_option maxHeartbeats 4000000 in
theorem S_X7_cords {d : Nat} (hd : 1 ≤ d) {a0 : Option Nat} {h : MH} {r : Int32} {hz : MH} (hK : F_X7_cords a0 h = some (r, hz)) : mm_M yX7_cords cX7_cords 1 (some .int) d [va_rf a0] h (.inr (some (.int r))) hz := by
  refine mm_ofV (by decide +kernel) (by simp [lg_sl, mm_crf, mm_cti, mm_ctl]) (fun V C => ?_)
  rw [show lv_args 0 [va_rf a0] = [(0, va_rf a0)] by simp [lv_args, mm_crf, mm_cti, mm_ctl]]
  unfold F_X7_cords at hK
  refine mm_aload_n C (pc := 0) 0 dX7_cords_0 rfl ?_
  replace hK := mm_bd hK; obtain ⟨v1, e1, hK⟩ := hK
  refine mm_geti C (pc := 1) (k := 7) inGX7 rfl (by decide) wd_358 dX7_cords_1 e1 ?_
  cases hK
  exact mm_iret C (pc := 4) rfl dX7_cords_4 rfl rfl
def F_X7_textLines (a0 : Option Nat) (h : MH) : Option (Int32 × MH) := (gI h a0 7 10).bind fun v1 => some (v1, h)
set_option maxRecDepth 20000 in
set_option maxHeartbeats 4000000 in
theorem S_X7_textLines {d : Nat} (hd : 1 ≤ d) {a0 : Option Nat} {h : MH} {r : Int32} {hz : MH} (hK : F_X7_textLines a0 h = some (r, hz)) : mm_M yX7_textLines cX7_textLines 1 (some .int) d [va_rf a0] h (.inr (some (.int r))) hz := by
  refine mm_ofV (by decide +kernel) (by simp [lg_sl, mm_crf, mm_cti, mm_ctl]) (fun V C => ?_)
  rw [show lv_args 0 [va_rf a0] = [(0, va_rf a0)] by simp [lv_args, mm_crf, mm_cti, mm_ctl]]
  unfold F_X7_textLines at hK
  refine mm_aload_n C (pc := 0) 0 dX7_textLines_0 rfl ?_
  replace hK := mm_bd hK; obtain ⟨v1, e1, hK⟩ := hK
  refine mm_geti C (pc := 1) (k := 10) inGX7 rfl (by decide) wd_361 dX7_textLines_1 e1 ?_
  cases hK
  exact mm_iret C (pc := 4) rfl dX7_textLines_4 rfl rfl
def F_X7_reachOf_27 (s0 : Int32) (h : MH) : Option (Int32 × MH) := some (s0, h)
set_option maxRecDepth 20000 in
set_option maxHeartbeats 4000000 in
theorem w_X7_reachOf_27 {d : Nat} {V : Nat → List (Nat × Value) → List Value → MH → Prop} {r : Int32} {hz : MH} (hd : 1 ≤ d) (C : mm_C d yX7_reachOf cX7_reachOf 2 (some .int) (.inr (some (.int r))) hz V) (s0 : Int32) (h : MH) (hK : F_X7_reachOf_27 s0 h = some (r, hz)) : V 27 [] [.int s0] h := by
  unfold F_X7_reachOf_27 at hK
  cases hK
  exact mm_iret C (pc := 27) rfl dX7_reachOf_27 rfl rfl
def F_X7_reachOf_26 (h : MH) : Option (Int32 × MH) := F_X7_reachOf_27 (0 : Int32) h
set_option maxRecDepth 20000 in
set_option maxHeartbeats 4000000 in
theorem w_X7_reachOf_26 {d : Nat} {V : Nat → List (Nat × Value) → List Value → MH → Prop} {r : Int32} {hz : MH} (hd : 1 ≤ d) (C : mm_C d yX7_reachOf cX7_reachOf 2 (some .int) (.inr (some (.int r))) hz V) (h : MH) (hK : F_X7_reachOf_26  h = some (r, hz)) : V 26 [] [] h := by
  unfold F_X7_reachOf_26 at hK
  refine mm_iconst C (pc := 26) (v := (0 : Int32)) dX7_reachOf_26 (by decide) ?_
  exact w_X7_reachOf_27 hd C _ _ hK
def F_X7_reachOf (a0 : Option Nat) (a1 : Int32) (h : MH) : Option (Int32 × MH) := if a1 < 0 then (F_X7_reachOf_26 h) else ((gI h a0 7 7).bind fun v6 => if v6 ≤ a1 then (F_X7_reachOf_26 h) else (if (3 : Int32) ≤ a1 then (F_X7_reachOf_26 h) else ((gR h a0 7 1).bind fun v18 => (aI h v18 0 a1).bind fun v22 => F_X7_reachOf_27 v22 h)))
set_option maxRecDepth 20000 in
set_option maxHeartbeats 4000000 in
theorem S_X7_reachOf {d : Nat} (hd : 1 ≤ d) {a0 : Option Nat} {a1 : Int32} {h : MH} {r : Int32} {hz : MH} (hK : F_X7_reachOf a0 a1 h = some (r, hz)) : mm_M yX7_reachOf cX7_reachOf 2 (some .int) d [va_rf a0, .int a1] h (.inr (some (.int r))) hz := by
  refine mm_ofV (by decide +kernel) (by simp [lg_sl, mm_crf, mm_cti, mm_ctl]) (fun V C => ?_)
  rw [show lv_args 0 [va_rf a0, .int a1] = [(0, va_rf a0), (1, .int a1)] by simp [lv_args, mm_crf, mm_cti, mm_ctl]]
  unfold F_X7_reachOf at hK
  refine mm_iload_n C (pc := 0) 1 dX7_reachOf_0 rfl ?_
  refine mm_if_lt C (pc := 1) (tgt := 26) dX7_reachOf_1 (by decide) (fun hc => ?_) (fun hc => ?_)
  · replace hK := mm_ip hc hK
    refine mm_sub C [] rfl ?_
    exact w_X7_reachOf_26 hd C _ hK
  · replace hK := mm_in hc hK
    refine mm_iload_n C (pc := 4) 1 dX7_reachOf_4 rfl ?_
    refine mm_aload_n C (pc := 5) 0 dX7_reachOf_5 rfl ?_
    replace hK := mm_bd hK; obtain ⟨v6, e6, hK⟩ := hK
    refine mm_geti C (pc := 6) (k := 7) inGX7 rfl (by decide) wd_358 dX7_reachOf_6 e6 ?_
    refine mm_icmp_ge C (pc := 9) (tgt := 26) dX7_reachOf_9 (by decide) (fun hc => ?_) (fun hc => ?_)
    · replace hK := mm_ip hc hK
      refine mm_sub C [] rfl ?_
      exact w_X7_reachOf_26 hd C _ hK
    · replace hK := mm_in hc hK
      refine mm_iload_n C (pc := 12) 1 dX7_reachOf_12 rfl ?_
      refine mm_iconst C (pc := 13) (v := (3 : Int32)) dX7_reachOf_13 (by decide) ?_
      refine mm_icmp_ge C (pc := 14) (tgt := 26) dX7_reachOf_14 (by decide) (fun hc => ?_) (fun hc => ?_)
      · replace hK := mm_ip hc hK
        refine mm_sub C [] rfl ?_
        exact w_X7_reachOf_26 hd C _ hK
      · replace hK := mm_in hc hK
        refine mm_aload_n C (pc := 17) 0 dX7_reachOf_17 rfl ?_
        replace hK := mm_bd hK; obtain ⟨v18, e18, hK⟩ := hK
        refine mm_getr C (pc := 18) (k := 1) inGX7 rfl (by decide) wd_352 dX7_reachOf_18 e18 ?_
        refine mm_iload_n C (pc := 21) 1 dX7_reachOf_21 rfl ?_
        replace hK := mm_bd hK; obtain ⟨v22, e22, hK⟩ := hK
        refine mm_iald C (pc := 22) dX7_reachOf_22 e22 ?_
        refine mm_goto C (pc := 23) (tgt := 27) dX7_reachOf_23 (by decide) ?_
        refine mm_sub C [] rfl ?_
        exact w_X7_reachOf_27 hd C _ _ hK
theorem dJ7_checkLength_df160_0 : decode cJ7_checkLength_df160 0 = .ok (.iload_n 1, 1) := by decide +kernel
theorem dJ7_checkLength_df160_1 : decode cJ7_checkLength_df160 1 = .ok (.iload_n 0, 1) := by decide +kernel
theorem dJ7_checkLength_df160_2 : decode cJ7_checkLength_df160 2 = .ok (.if_icmp .ge 35, 3) := by decide +kernel
theorem dJ7_checkLength_df160_5 : decode cJ7_checkLength_df160 5 = .ok (.new 43, 3) := by decide +kernel
theorem dJ7_checkLength_df160_8 : decode cJ7_checkLength_df160 8 = .ok (.dup, 1) := by decide +kernel
theorem dJ7_checkLength_df160_9 : decode cJ7_checkLength_df160 9 = .ok (.new 45, 3) := by decide +kernel
theorem dJ7_checkLength_df160_12 : decode cJ7_checkLength_df160 12 = .ok (.dup, 1) := by decide +kernel
theorem dJ7_checkLength_df160_13 : decode cJ7_checkLength_df160 13 = .ok (.invokespecial 47, 3) := by decide +kernel
theorem dJ7_checkLength_df160_16 : decode cJ7_checkLength_df160 16 = .ok (.iload_n 0, 1) := by decide +kernel
theorem dJ7_checkLength_df160_17 : decode cJ7_checkLength_df160 17 = .ok (.invokevirtual 54, 3) := by decide +kernel
theorem dJ7_checkLength_df160_20 : decode cJ7_checkLength_df160 20 = .ok (.ldc_w 337, 3) := by decide +kernel
theorem dJ7_checkLength_df160_23 : decode cJ7_checkLength_df160 23 = .ok (.invokevirtual 50, 3) := by decide +kernel
theorem dJ7_checkLength_df160_26 : decode cJ7_checkLength_df160 26 = .ok (.iload_n 1, 1) := by decide +kernel
theorem dJ7_checkLength_df160_27 : decode cJ7_checkLength_df160 27 = .ok (.invokevirtual 54, 3) := by decide +kernel
theorem dJ7_checkLength_df160_30 : decode cJ7_checkLength_df160 30 = .ok (.invokevirtual 61, 3) := by decide +kernel
theorem dJ7_checkLength_df160_33 : decode cJ7_checkLength_df160 33 = .ok (.invokespecial 65, 3) := by decide +kernel
theorem dJ7_checkLength_df160_36 : decode cJ7_checkLength_df160 36 = .ok (.athrow, 1) := by decide +kernel
theorem dJ7_checkLength_df160_37 : decode cJ7_checkLength_df160 37 = .ok (.return_, 1) := by decide +kernel
def F_J7_checkLength_df160 (a0 : Int32) (a1 : Int32) (h : MH) : Option MH := if a0 ≤ a1 then (some h) else (none)
set_option maxRecDepth 20000 in
set_option maxHeartbeats 4000000 in
theorem S_J7_checkLength_df160 {d : Nat} (hd : 1 ≤ d) {a0 : Int32} {a1 : Int32} {h : MH} {hz : MH} (hK : F_J7_checkLength_df160 a0 a1 h = some hz) : mm_M yJ7_checkLength_df160 cJ7_checkLength_df160 2 none d [.int a0, .int a1] h (.inr none) hz := by
  refine mm_ofV (by decide +kernel) (by simp [lg_sl, mm_crf, mm_cti, mm_ctl]) (fun V C => ?_)
  rw [show lv_args 0 [.int a0, .int a1] = [(0, .int a0), (1, .int a1)] by simp [lv_args, mm_crf, mm_cti, mm_ctl]]
  unfold F_J7_checkLength_df160 at hK
  refine mm_iload_n C (pc := 0) 1 dJ7_checkLength_df160_0 rfl ?_
  refine mm_iload_n C (pc := 1) 0 dJ7_checkLength_df160_1 rfl ?_
  refine mm_icmp_ge C (pc := 2) (tgt := 37) dJ7_checkLength_df160_2 (by decide) (fun hc => ?_) (fun hc => ?_)
  · replace hK := mm_ip hc hK
    cases hK
    exact mm_vret C (pc := 37) rfl dJ7_checkLength_df160_37 rfl rfl
  · replace hK := mm_in hc hK
    cases hK
theorem dJ7_copyOfRangeInt_feecc_0 : decode cJ7_copyOfRangeInt_feecc 0 = .ok (.iload_n 1, 1) := by decide +kernel
theorem dJ7_copyOfRangeInt_feecc_1 : decode cJ7_copyOfRangeInt_feecc 1 = .ok (.iload_n 2, 1) := by decide +kernel
theorem dJ7_copyOfRangeInt_feecc_2 : decode cJ7_copyOfRangeInt_feecc 2 = .ok (.invokestatic 343, 3) := by decide +kernel
theorem dJ7_copyOfRangeInt_feecc_5 : decode cJ7_copyOfRangeInt_feecc 5 = .ok (.iload_n 2, 1) := by decide +kernel
theorem dJ7_copyOfRangeInt_feecc_6 : decode cJ7_copyOfRangeInt_feecc 6 = .ok (.iload_n 1, 1) := by decide +kernel
theorem dJ7_copyOfRangeInt_feecc_7 : decode cJ7_copyOfRangeInt_feecc 7 = .ok (.isub, 1) := by decide +kernel
theorem dJ7_copyOfRangeInt_feecc_8 : decode cJ7_copyOfRangeInt_feecc 8 = .ok (.istore_n 3, 1) := by decide +kernel
theorem dJ7_copyOfRangeInt_feecc_9 : decode cJ7_copyOfRangeInt_feecc 9 = .ok (.iload_n 3, 1) := by decide +kernel
theorem dJ7_copyOfRangeInt_feecc_10 : decode cJ7_copyOfRangeInt_feecc 10 = .ok (.newarray .int, 2) := by decide +kernel
theorem dJ7_copyOfRangeInt_feecc_12 : decode cJ7_copyOfRangeInt_feecc 12 = .ok (.astore 4, 2) := by decide +kernel
theorem dJ7_copyOfRangeInt_feecc_14 : decode cJ7_copyOfRangeInt_feecc 14 = .ok (.aload_n 0, 1) := by decide +kernel
theorem dJ7_copyOfRangeInt_feecc_15 : decode cJ7_copyOfRangeInt_feecc 15 = .ok (.iload_n 1, 1) := by decide +kernel
theorem dJ7_copyOfRangeInt_feecc_16 : decode cJ7_copyOfRangeInt_feecc 16 = .ok (.aload 4, 2) := by decide +kernel
theorem dJ7_copyOfRangeInt_feecc_18 : decode cJ7_copyOfRangeInt_feecc 18 = .ok (.iconst 0, 1) := by decide +kernel
theorem dJ7_copyOfRangeInt_feecc_19 : decode cJ7_copyOfRangeInt_feecc 19 = .ok (.aload_n 0, 1) := by decide +kernel
theorem dJ7_copyOfRangeInt_feecc_20 : decode cJ7_copyOfRangeInt_feecc 20 = .ok (.arraylength, 1) := by decide +kernel
theorem dJ7_copyOfRangeInt_feecc_21 : decode cJ7_copyOfRangeInt_feecc 21 = .ok (.iload_n 1, 1) := by decide +kernel
theorem dJ7_copyOfRangeInt_feecc_22 : decode cJ7_copyOfRangeInt_feecc 22 = .ok (.isub, 1) := by decide +kernel
theorem dJ7_copyOfRangeInt_feecc_23 : decode cJ7_copyOfRangeInt_feecc 23 = .ok (.iload_n 3, 1) := by decide +kernel
theorem dJ7_copyOfRangeInt_feecc_24 : decode cJ7_copyOfRangeInt_feecc 24 = .ok (.invokestatic 304, 3) := by decide +kernel
theorem dJ7_copyOfRangeInt_feecc_27 : decode cJ7_copyOfRangeInt_feecc 27 = .ok (.invokestatic 150, 3) := by decide +kernel
theorem dJ7_copyOfRangeInt_feecc_30 : decode cJ7_copyOfRangeInt_feecc 30 = .ok (.aload 4, 2) := by decide +kernel
theorem dJ7_copyOfRangeInt_feecc_32 : decode cJ7_copyOfRangeInt_feecc 32 = .ok (.areturn, 1) := by decide +kernel
theorem wd_440 : Cond.code yJ7_checkLength_df160 cJ7_checkLength_df160 2 none ∈ lw_good := mm_wd 440 (by decide +kernel) (by decide +kernel)
theorem wd_154 : Cond.initialized RJ7 ∈ lw_good := mm_wd 154 (by decide +kernel) (by decide +kernel)
theorem tT_J7_checkLength_df160 : mm_T yJ7_checkLength_df160 cJ7_checkLength_df160 2 none 2 := ⟨wd_440, wd_154, by decide +kernel, by decide +kernel, by decide +kernel, by decide +kernel⟩
theorem wd_438 : Cond.methodLink RJ7 343 yJ7_checkLength_df160 ∈ lw_good := mm_wd 438 (by decide +kernel) (by decide +kernel)
theorem wd_439 : Cond.static yJ7_checkLength_df160 ∈ lw_good := mm_wd 439 (by decide +kernel) (by decide +kernel)
theorem wd_551 : Cond.methodLink RJ7 304 yJ9_min_7cf53 ∈ lw_good := mm_wd 551 (by decide +kernel) (by decide +kernel)
theorem wd_409 : Cond.static yJ9_min_7cf53 ∈ lw_good := mm_wd 409 (by decide +kernel) (by decide +kernel)
theorem wd_152 : Cond.initialized RJ9 ∈ lw_good := mm_wd 152 (by decide +kernel) (by decide +kernel)
theorem wd_410 : Cond.code yJ9_min_7cf53 cJ9_min_7cf53 2 (some .int) ∈ lw_good := mm_wd 410 (by decide +kernel) (by decide +kernel)
theorem wd_552 : Cond.methodLink RJ7 150 arraycopyName ∈ lw_good := mm_wd 552 (by decide +kernel) (by decide +kernel)
theorem wd_554 : Cond.native arraycopyName ∈ lw_good := mm_wd 554 (by decide +kernel) (by decide +kernel)
theorem wd_553 : Cond.static arraycopyName ∈ lw_good := mm_wd 553 (by decide +kernel) (by decide +kernel)
theorem wd_166 : Cond.initialized RJ10 ∈ lw_good := mm_wd 166 (by decide +kernel) (by decide +kernel)
def F_J7_copyOfRangeInt_feecc (a0 : Option Nat) (a1 : Int32) (a2 : Int32) (h : MH) : Option (Option Nat × MH) := (F_J7_checkLength_df160 a1 a2 h).bind fun h2 => mm_b2 (nI_ h2 0 (a2 - a1)) fun v10 h10 => (aNt h10 a0 0).bind fun v20 => (cpI h10 a0 a1 v10 (0 : Int32) (mnI (v20 - a1) (a2 - a1))).bind fun h27 => some (v10, h27)
set_option maxRecDepth 20000 in
set_option maxHeartbeats 4000000 in
theorem S_J7_copyOfRangeInt_feecc {d : Nat} (hd : 2 ≤ d) {a0 : Option Nat} {a1 : Int32} {a2 : Int32} {h : MH} {r : Option Nat} {hz : MH} (hK : F_J7_copyOfRangeInt_feecc a0 a1 a2 h = some (r, hz)) : mm_M yJ7_copyOfRangeInt_feecc cJ7_copyOfRangeInt_feecc 5 (some (.array .int)) d [va_rf a0, .int a1, .int a2] h (.inr (some (va_rf r))) hz := by
  refine mm_ofV (by decide +kernel) (by simp [lg_sl, mm_crf, mm_cti, mm_ctl]) (fun V C => ?_)
  rw [show lv_args 0 [va_rf a0, .int a1, .int a2] = [(0, va_rf a0), (1, .int a1), (2, .int a2)] by simp [lv_args, mm_crf, mm_cti, mm_ctl]]
  unfold F_J7_copyOfRangeInt_feecc at hK
  refine mm_iload_n C (pc := 0) 1 dJ7_copyOfRangeInt_feecc_0 rfl ?_
  refine mm_iload_n C (pc := 1) 2 dJ7_copyOfRangeInt_feecc_1 rfl ?_
  replace hK := mm_bd hK; obtain ⟨h2, e2, hK⟩ := hK
  refine mm_callS C (pc := 2) (d1 := 1) (As := [.int a1, .int a2]) (st := []) (vk := none) ((S_J7_checkLength_df160 (by omega)) e2) tT_J7_checkLength_df160 wd_438 wd_439 (by omega) (by decide) rfl (by simp [mm_crf, mm_cti, mm_ctl]) rfl dJ7_copyOfRangeInt_feecc_2 ?_
  show V _ _ [] _
  refine mm_iload_n C (pc := 5) 2 dJ7_copyOfRangeInt_feecc_5 rfl ?_
  refine mm_iload_n C (pc := 6) 1 dJ7_copyOfRangeInt_feecc_6 rfl ?_
  refine mm_isub C (pc := 7) dJ7_copyOfRangeInt_feecc_7 ?_
  refine mm_istore_n C (pc := 8) (i := 3) (lv' := [(3, .int (a2 - a1)), (0, va_rf a0), (1, .int a1), (2, .int a2)]) dJ7_copyOfRangeInt_feecc_8 rfl (by decide) rfl ?_
  refine mm_iload_n C (pc := 9) 0 dJ7_copyOfRangeInt_feecc_9 rfl ?_
  replace hK := mm_b2s hK; obtain ⟨v10, h10, e10, hK⟩ := hK
  refine mm_newI C (pc := 10) wd_200 dJ7_copyOfRangeInt_feecc_10 e10 ?_
  refine mm_astore C (pc := 12) (i := 4) (lv' := [(4, va_rf v10), (3, .int (a2 - a1)), (0, va_rf a0), (1, .int a1), (2, .int a2)]) dJ7_copyOfRangeInt_feecc_12 (by decide) rfl ?_
  refine mm_aload_n C (pc := 14) 2 dJ7_copyOfRangeInt_feecc_14 rfl ?_
  refine mm_iload_n C (pc := 15) 3 dJ7_copyOfRangeInt_feecc_15 rfl ?_
  refine mm_aload C (pc := 16) 0 dJ7_copyOfRangeInt_feecc_16 rfl ?_
  refine mm_iconst C (pc := 18) (v := (0 : Int32)) dJ7_copyOfRangeInt_feecc_18 (by decide) ?_
  refine mm_aload_n C (pc := 19) 2 dJ7_copyOfRangeInt_feecc_19 rfl ?_
  replace hK := mm_bd hK; obtain ⟨v20, e20, hK⟩ := hK
  refine mm_alenI C (pc := 20) dJ7_copyOfRangeInt_feecc_20 e20 ?_
  refine mm_iload_n C (pc := 21) 3 dJ7_copyOfRangeInt_feecc_21 rfl ?_
  refine mm_isub C (pc := 22) dJ7_copyOfRangeInt_feecc_22 ?_
  refine mm_iload_n C (pc := 23) 1 dJ7_copyOfRangeInt_feecc_23 rfl ?_
  refine mm_mmin C (pc := 24) wd_551 wd_409 wd_152 wd_410 (by omega) (by simp [mm_crf, mm_cti, mm_ctl]) dJ7_copyOfRangeInt_feecc_24 ?_
  replace hK := mm_bd hK; obtain ⟨h27, e27, hK⟩ := hK
  refine mm_copy C (pc := 27) wd_552 wd_554 wd_553 wd_166 (by omega) (by simp [mm_crf, mm_cti, mm_ctl]) dJ7_copyOfRangeInt_feecc_27 e27 ?_
  refine mm_aload C (pc := 30) 0 dJ7_copyOfRangeInt_feecc_30 rfl ?_
  cases hK
  exact mm_aret C (pc := 32) rfl (Or.inr ⟨_, rfl⟩) dJ7_copyOfRangeInt_feecc_32 rfl rfl
theorem dJ7_copyOfRange_feecc_0 : decode cJ7_copyOfRange_feecc 0 = .ok (.iload_n 1, 1) := by decide +kernel
theorem dJ7_copyOfRange_feecc_1 : decode cJ7_copyOfRange_feecc 1 = .ok (.ifCond .ne 9, 3) := by decide +kernel
theorem dJ7_copyOfRange_feecc_4 : decode cJ7_copyOfRange_feecc 4 = .ok (.iload_n 2, 1) := by decide +kernel
theorem dJ7_copyOfRange_feecc_5 : decode cJ7_copyOfRange_feecc 5 = .ok (.aload_n 0, 1) := by decide +kernel
theorem dJ7_copyOfRange_feecc_6 : decode cJ7_copyOfRange_feecc 6 = .ok (.arraylength, 1) := by decide +kernel
theorem dJ7_copyOfRange_feecc_7 : decode cJ7_copyOfRange_feecc 7 = .ok (.if_icmp .eq 10, 3) := by decide +kernel
theorem dJ7_copyOfRange_feecc_10 : decode cJ7_copyOfRange_feecc 10 = .ok (.aload_n 0, 1) := by decide +kernel
theorem dJ7_copyOfRange_feecc_11 : decode cJ7_copyOfRange_feecc 11 = .ok (.iload_n 1, 1) := by decide +kernel
theorem dJ7_copyOfRange_feecc_12 : decode cJ7_copyOfRange_feecc 12 = .ok (.iload_n 2, 1) := by decide +kernel
theorem dJ7_copyOfRange_feecc_13 : decode cJ7_copyOfRange_feecc 13 = .ok (.invokestatic 351, 3) := by decide +kernel
theorem dJ7_copyOfRange_feecc_16 : decode cJ7_copyOfRange_feecc 16 = .ok (.areturn, 1) := by decide +kernel
theorem dJ7_copyOfRange_feecc_17 : decode cJ7_copyOfRange_feecc 17 = .ok (.aload_n 0, 1) := by decide +kernel
theorem dJ7_copyOfRange_feecc_18 : decode cJ7_copyOfRange_feecc 18 = .ok (.invokevirtual 316, 3) := by decide +kernel
theorem dJ7_copyOfRange_feecc_21 : decode cJ7_copyOfRange_feecc 21 = .ok (.checkcast 317, 3) := by decide +kernel
theorem dJ7_copyOfRange_feecc_24 : decode cJ7_copyOfRange_feecc 24 = .ok (.areturn, 1) := by decide +kernel
theorem wd_437 : Cond.code yJ7_copyOfRangeInt_feecc cJ7_copyOfRangeInt_feecc 5 (some (.array .int)) ∈ lw_good := mm_wd 437 (by decide +kernel) (by decide +kernel)
theorem tT_J7_copyOfRangeInt_feecc : mm_T yJ7_copyOfRangeInt_feecc cJ7_copyOfRangeInt_feecc 5 (some (.array .int)) 3 := ⟨wd_437, wd_154, by decide +kernel, by decide +kernel, by decide +kernel, by decide +kernel⟩
theorem wd_435 : Cond.methodLink RJ7 351 yJ7_copyOfRangeInt_feecc ∈ lw_good := mm_wd 435 (by decide +kernel) (by decide +kernel)
theorem wd_436 : Cond.static yJ7_copyOfRangeInt_feecc ∈ lw_good := mm_wd 436 (by decide +kernel) (by decide +kernel)
def F_J7_copyOfRange_feecc_10 (l0 : Option Nat) (l1 : Int32) (l2 : Int32) (h : MH) : Option (Option Nat × MH) := mm_b2 (F_J7_copyOfRangeInt_feecc l0 l1 l2 h) fun v13 h13 => some (v13, h13)
set_option maxRecDepth 20000 in
set_option maxHeartbeats 4000000 in
theorem w_J7_copyOfRange_feecc_10 {d : Nat} {V : Nat → List (Nat × Value) → List Value → MH → Prop} {r : Option Nat} {hz : MH} (hd : 3 ≤ d) (C : mm_C d yJ7_copyOfRange_feecc cJ7_copyOfRange_feecc 3 (some (.array .int)) (.inr (some (va_rf r))) hz V) (l0 : Option Nat) (l1 : Int32) (l2 : Int32) (h : MH) (hK : F_J7_copyOfRange_feecc_10 l0 l1 l2 h = some (r, hz)) : V 10 [(0, va_rf l0), (1, .int l1), (2, .int l2)] [] h := by
  unfold F_J7_copyOfRange_feecc_10 at hK
  refine mm_aload_n C (pc := 10) 0 dJ7_copyOfRange_feecc_10 rfl ?_
  refine mm_iload_n C (pc := 11) 1 dJ7_copyOfRange_feecc_11 rfl ?_
  refine mm_iload_n C (pc := 12) 2 dJ7_copyOfRange_feecc_12 rfl ?_
  replace hK := mm_b2s hK; obtain ⟨v13, h13, e13, hK⟩ := hK
  refine mm_callS C (pc := 13) (d1 := 2) (As := [va_rf l0, .int l1, .int l2]) (st := []) (vk := (some (va_rf v13))) ((S_J7_copyOfRangeInt_feecc (by omega)) e13) tT_J7_copyOfRangeInt_feecc wd_435 wd_436 (by omega) (by decide) rfl (by simp [mm_crf, mm_cti, mm_ctl]) rfl dJ7_copyOfRange_feecc_13 ?_
  show V _ _ (va_rf v13 :: _) _
  cases hK
  exact mm_aret C (pc := 16) rfl (Or.inr ⟨_, rfl⟩) dJ7_copyOfRange_feecc_16 rfl rfl
def F_J7_copyOfRange_feecc (a0 : Option Nat) (a1 : Int32) (a2 : Int32) (h : MH) : Option (Option Nat × MH) := if a1 = 0 then ((aNt h a0 0).bind fun v6 => if a2 = v6 then (none) else (F_J7_copyOfRange_feecc_10 a0 a1 a2 h)) else (F_J7_copyOfRange_feecc_10 a0 a1 a2 h)
set_option maxRecDepth 20000 in
set_option maxHeartbeats 4000000 in
theorem S_J7_copyOfRange_feecc {d : Nat} (hd : 3 ≤ d) {a0 : Option Nat} {a1 : Int32} {a2 : Int32} {h : MH} {r : Option Nat} {hz : MH} (hK : F_J7_copyOfRange_feecc a0 a1 a2 h = some (r, hz)) : mm_M yJ7_copyOfRange_feecc cJ7_copyOfRange_feecc 3 (some (.array .int)) d [va_rf a0, .int a1, .int a2] h (.inr (some (va_rf r))) hz := by
  refine mm_ofV (by decide +kernel) (by simp [lg_sl, mm_crf, mm_cti, mm_ctl]) (fun V C => ?_)
  rw [show lv_args 0 [va_rf a0, .int a1, .int a2] = [(0, va_rf a0), (1, .int a1), (2, .int a2)] by simp [lv_args, mm_crf, mm_cti, mm_ctl]]
  unfold F_J7_copyOfRange_feecc at hK
  refine mm_iload_n C (pc := 0) 1 dJ7_copyOfRange_feecc_0 rfl ?_
  refine mm_if_ne C (pc := 1) (tgt := 10) dJ7_copyOfRange_feecc_1 (by decide) (fun hc => ?_) (fun hc => ?_)
  · replace hK := mm_in hc hK
    exact w_J7_copyOfRange_feecc_10 hd C _ _ _ _ hK
  · replace hK := mm_ip hc hK
    refine mm_iload_n C (pc := 4) 2 dJ7_copyOfRange_feecc_4 rfl ?_
    refine mm_aload_n C (pc := 5) 0 dJ7_copyOfRange_feecc_5 rfl ?_
    replace hK := mm_bd hK; obtain ⟨v6, e6, hK⟩ := hK
    refine mm_alenI C (pc := 6) dJ7_copyOfRange_feecc_6 e6 ?_
    refine mm_icmp_eq C (pc := 7) (tgt := 17) dJ7_copyOfRange_feecc_7 (by decide) (fun hc => ?_) (fun hc => ?_)
    · replace hK := mm_ip hc hK
      cases hK
    · replace hK := mm_in hc hK
      exact w_J7_copyOfRange_feecc_10 hd C _ _ _ _ hK
theorem wd_746 : Cond.methodLink RX5 1 Lib.objectInit ∈ lw_good := mm_wd 746 (by decide +kernel) (by decide +kernel)
theorem wd_748 : Cond.fieldLink RX5 9 "CrossedLines$Law" "stack" "[I" ∈ lw_good := mm_wd 748 (by decide +kernel) (by decide +kernel)
theorem inGX5 : ∀ w ∈ u_ws RX5 TX5 2, w ∈ lw_good := mm_ws [749, 751] (by decide +kernel) (by decide +kernel)
theorem wd_747 : Cond.fieldLink RX5 13 "CrossedLines$Law" "code" "[I" ∈ lw_good := mm_wd 747 (by decide +kernel) (by decide +kernel)
def F_X5_init (a0 : Option Nat) (a1 : Option Nat) (h : MH) : Option MH := a0.bind fun b1 => mm_b2 (nI_ h 0 (32 : Int32)) fun v7 h7 => (pR h7 (some b1) 5 1 v7).bind fun h9 => (pR h9 (some b1) 5 0 a1).bind fun h14 => some h14
set_option maxRecDepth 20000 in
set_option maxHeartbeats 4000000 in
theorem S_X5_init {d : Nat} (hd : 1 ≤ d) {a0 : Option Nat} {a1 : Option Nat} {h : MH} {hz : MH} (hK : F_X5_init a0 a1 h = some hz) : mm_M yX5_init cX5_init 2 none d [va_rf a0, va_rf a1] h (.inr none) hz := by
  refine mm_ofV (by decide +kernel) (by simp [lg_sl, mm_crf, mm_cti, mm_ctl]) (fun V C => ?_)
  rw [show lv_args 0 [va_rf a0, va_rf a1] = [(0, va_rf a0), (1, va_rf a1)] by simp [lv_args, mm_crf, mm_cti, mm_ctl]]
  unfold F_X5_init at hK
  refine mm_aload_n C (pc := 0) 0 dX5_init_0 rfl ?_
  replace hK := mm_bd hK; obtain ⟨b1, e1, hK⟩ := hK
  subst e1
  refine mm_objInit C (pc := 1) wd_746 wd_181 wd_182 (by omega) (by simp [mm_crf, mm_cti, mm_ctl]) dX5_init_1 ?_
  refine mm_aload_n C (pc := 4) 0 dX5_init_4 rfl ?_
  refine mm_bipush C (pc := 5) (v := (32 : Int32)) dX5_init_5 (by decide) ?_
  replace hK := mm_b2s hK; obtain ⟨v7, h7, e7, hK⟩ := hK
  refine mm_newI C (pc := 7) wd_200 dX5_init_7 e7 ?_
  replace hK := mm_bd hK; obtain ⟨h9, e9, hK⟩ := hK
  refine mm_putr C (pc := 9) (k := 1) true (fun _ => ⟨rfl, rfl⟩) inGX5 tyX5 tyX5_ok nmX5 rfl (by decide) wd_748 rfl rfl dX5_init_9 e9 ?_
  refine mm_aload_n C (pc := 12) 0 dX5_init_12 rfl ?_
  refine mm_aload_n C (pc := 13) 1 dX5_init_13 rfl ?_
  replace hK := mm_bd hK; obtain ⟨h14, e14, hK⟩ := hK
  refine mm_putr C (pc := 14) (k := 0) true (fun _ => ⟨rfl, rfl⟩) inGX5 tyX5 tyX5_ok nmX5 rfl (by decide) wd_747 rfl rfl dX5_init_14 e14 ?_
  cases hK
  exact mm_vret C (pc := 17) rfl dX5_init_17 rfl rfl
theorem wd_430 : Cond.classLink RX7 59 RX5 ∈ lw_good := mm_wd 430 (by decide +kernel) (by decide +kernel)
theorem wd_431 : Cond.instantiable RX5 2 ∈ lw_good := mm_wd 431 (by decide +kernel) (by decide +kernel)
theorem wd_153 : Cond.initialized RX5 ∈ lw_good := mm_wd 153 (by decide +kernel) (by decide +kernel)
theorem wd_434 : Cond.code yJ7_copyOfRange_feecc cJ7_copyOfRange_feecc 3 (some (.array .int)) ∈ lw_good := mm_wd 434 (by decide +kernel) (by decide +kernel)
theorem tT_J7_copyOfRange_feecc : mm_T yJ7_copyOfRange_feecc cJ7_copyOfRange_feecc 3 (some (.array .int)) 3 := ⟨wd_434, wd_154, by decide +kernel, by decide +kernel, by decide +kernel, by decide +kernel⟩
theorem wd_432 : Cond.methodLink RX7 61 yJ7_copyOfRange_feecc ∈ lw_good := mm_wd 432 (by decide +kernel) (by decide +kernel)
theorem wd_433 : Cond.static yJ7_copyOfRange_feecc ∈ lw_good := mm_wd 433 (by decide +kernel) (by decide +kernel)
theorem wd_745 : Cond.code yX5_init cX5_init 2 none ∈ lw_good := mm_wd 745 (by decide +kernel) (by decide +kernel)
theorem tT_X5_init : mm_T yX5_init cX5_init 2 none 1 := ⟨wd_745, wd_153, by decide +kernel, by decide +kernel, by decide +kernel, by decide +kernel⟩
theorem wd_743 : Cond.methodLink RX7 67 yX5_init ∈ lw_good := mm_wd 743 (by decide +kernel) (by decide +kernel)
theorem wd_744 : Cond.instanceMethod yX5_init ∈ lw_good := mm_wd 744 (by decide +kernel) (by decide +kernel)
def F_X7_lawOf_9 (h : MH) : Option (Option Nat × MH) := some ((none : Option Nat), h)
set_option maxRecDepth 20000 in
set_option maxHeartbeats 4000000 in
theorem w_X7_lawOf_9 {d : Nat} {V : Nat → List (Nat × Value) → List Value → MH → Prop} {r : Option Nat} {hz : MH} (hd : 4 ≤ d) (C : mm_C d yX7_lawOf cX7_lawOf 4 (some (.object "CrossedLines$Law")) (.inr (some (va_rf r))) hz V) (h : MH) (hK : F_X7_lawOf_9  h = some (r, hz)) : V 9 [] [] h := by
  unfold F_X7_lawOf_9 at hK
  refine mm_null C (pc := 9) dX7_lawOf_9 ?_
  cases hK
  exact mm_aret C (pc := 10) rfl (Or.inl ⟨_, rfl⟩) dX7_lawOf_10 rfl rfl
def F_X7_lawOf_41 (h : MH) : Option (Option Nat × MH) := some ((none : Option Nat), h)
set_option maxRecDepth 20000 in
set_option maxHeartbeats 4000000 in
theorem w_X7_lawOf_41 {d : Nat} {V : Nat → List (Nat × Value) → List Value → MH → Prop} {r : Option Nat} {hz : MH} (hd : 4 ≤ d) (C : mm_C d yX7_lawOf cX7_lawOf 4 (some (.object "CrossedLines$Law")) (.inr (some (va_rf r))) hz V) (h : MH) (hK : F_X7_lawOf_41  h = some (r, hz)) : V 41 [] [] h := by
  unfold F_X7_lawOf_41 at hK
  refine mm_null C (pc := 41) dX7_lawOf_41 ?_
  cases hK
  exact mm_aret C (pc := 42) rfl (Or.inl ⟨_, rfl⟩) dX7_lawOf_42 rfl rfl
def F_X7_lawOf (a0 : Option Nat) (a1 : Int32) (h : MH) : Option (Option Nat × MH) := if a1 < 0 then (F_X7_lawOf_9 h) else (if a1 < (3 : Int32) then ((gR h a0 7 4).bind fun v12 => (aI h v12 0 a1).bind fun v16 => (gR h a0 7 5).bind fun v19 => (aI h v19 0 a1).bind fun v23 => if v16 < 0 then (F_X7_lawOf_41 h) else (if v23 ≤ v16 then (F_X7_lawOf_41 h) else (if v23 ≤ (900 : Int32) then (mm_b2 (nO h 5 [.null, .null] 2) fun v43 h43 => (gR h43 a0 7 3).bind fun v48 => mm_b2 (F_J7_copyOfRange_feecc v48 v16 v23 h43) fun v53 h53 => v43.bind fun b56 => (F_X5_init (some b56) v53 h53).bind fun h56 => some ((some b56), h56)) else (F_X7_lawOf_41 h)))) else (F_X7_lawOf_9 h))
set_option maxRecDepth 20000 in
set_option maxHeartbeats 4000000 in
theorem S_X7_lawOf {d : Nat} (hd : 4 ≤ d) {a0 : Option Nat} {a1 : Int32} {h : MH} {r : Option Nat} {hz : MH} (hK : F_X7_lawOf a0 a1 h = some (r, hz)) : mm_M yX7_lawOf cX7_lawOf 4 (some (.object "CrossedLines$Law")) d [va_rf a0, .int a1] h (.inr (some (va_rf r))) hz := by
  refine mm_ofV (by decide +kernel) (by simp [lg_sl, mm_crf, mm_cti, mm_ctl]) (fun V C => ?_)
  rw [show lv_args 0 [va_rf a0, .int a1] = [(0, va_rf a0), (1, .int a1)] by simp [lv_args, mm_crf, mm_cti, mm_ctl]]
  unfold F_X7_lawOf at hK
  refine mm_iload_n C (pc := 0) 1 dX7_lawOf_0 rfl ?_
  refine mm_if_lt C (pc := 1) (tgt := 9) dX7_lawOf_1 (by decide) (fun hc => ?_) (fun hc => ?_)
  · replace hK := mm_ip hc hK
    refine mm_sub C [] rfl ?_
    exact w_X7_lawOf_9 hd C _ hK
  · replace hK := mm_in hc hK
    refine mm_iload_n C (pc := 4) 1 dX7_lawOf_4 rfl ?_
    refine mm_iconst C (pc := 5) (v := (3 : Int32)) dX7_lawOf_5 (by decide) ?_
    refine mm_icmp_lt C (pc := 6) (tgt := 11) dX7_lawOf_6 (by decide) (fun hc => ?_) (fun hc => ?_)
    · replace hK := mm_ip hc hK
      refine mm_aload_n C (pc := 11) 0 dX7_lawOf_11 rfl ?_
      replace hK := mm_bd hK; obtain ⟨v12, e12, hK⟩ := hK
      refine mm_getr C (pc := 12) (k := 4) inGX7 rfl (by decide) wd_355 dX7_lawOf_12 e12 ?_
      refine mm_iload_n C (pc := 15) 1 dX7_lawOf_15 rfl ?_
      replace hK := mm_bd hK; obtain ⟨v16, e16, hK⟩ := hK
      refine mm_iald C (pc := 16) dX7_lawOf_16 e16 ?_
      refine mm_istore_n C (pc := 17) (i := 2) (lv' := [(2, .int v16), (0, va_rf a0), (1, .int a1)]) dX7_lawOf_17 rfl (by decide) rfl ?_
      refine mm_aload_n C (pc := 18) 1 dX7_lawOf_18 rfl ?_
      replace hK := mm_bd hK; obtain ⟨v19, e19, hK⟩ := hK
      refine mm_getr C (pc := 19) (k := 5) inGX7 rfl (by decide) wd_356 dX7_lawOf_19 e19 ?_
      refine mm_iload_n C (pc := 22) 2 dX7_lawOf_22 rfl ?_
      replace hK := mm_bd hK; obtain ⟨v23, e23, hK⟩ := hK
      refine mm_iald C (pc := 23) dX7_lawOf_23 e23 ?_
      refine mm_istore_n C (pc := 24) (i := 3) (lv' := [(3, .int v23), (2, .int v16), (0, va_rf a0), (1, .int a1)]) dX7_lawOf_24 rfl (by decide) rfl ?_
      refine mm_iload_n C (pc := 25) 1 dX7_lawOf_25 rfl ?_
      refine mm_if_lt C (pc := 26) (tgt := 41) dX7_lawOf_26 (by decide) (fun hc => ?_) (fun hc => ?_)
      · replace hK := mm_ip hc hK
        refine mm_sub C [] rfl ?_
        exact w_X7_lawOf_41 hd C _ hK
      · replace hK := mm_in hc hK
        refine mm_iload_n C (pc := 29) 1 dX7_lawOf_29 rfl ?_
        refine mm_iload_n C (pc := 30) 0 dX7_lawOf_30 rfl ?_
        refine mm_icmp_ge C (pc := 31) (tgt := 41) dX7_lawOf_31 (by decide) (fun hc => ?_) (fun hc => ?_)
        · replace hK := mm_ip hc hK
          refine mm_sub C [] rfl ?_
          exact w_X7_lawOf_41 hd C _ hK
        · replace hK := mm_in hc hK
          refine mm_iload_n C (pc := 34) 0 dX7_lawOf_34 rfl ?_
          refine mm_sipush C (pc := 35) (v := (900 : Int32)) dX7_lawOf_35 (by decide) ?_
          refine mm_icmp_le C (pc := 38) (tgt := 43) dX7_lawOf_38 (by decide) (fun hc => ?_) (fun hc => ?_)
          · replace hK := mm_ip hc hK
            replace hK := mm_b2s hK; obtain ⟨v43, h43, e43, hK⟩ := hK
            refine mm_new C (pc := 43) inGX5 tyX5 tyX5_ok rfl wd_430 wd_431 wd_153 (mm_dv (by decide)) (fun _ => rfl) dX7_lawOf_43 e43 ?_
            refine mm_dup C (pc := 46) dX7_lawOf_46 mm_crf ?_
            refine mm_aload_n C (pc := 47) 2 dX7_lawOf_47 rfl ?_
            replace hK := mm_bd hK; obtain ⟨v48, e48, hK⟩ := hK
            refine mm_getr C (pc := 48) (k := 3) inGX7 rfl (by decide) wd_354 dX7_lawOf_48 e48 ?_
            refine mm_iload_n C (pc := 51) 1 dX7_lawOf_51 rfl ?_
            refine mm_iload_n C (pc := 52) 0 dX7_lawOf_52 rfl ?_
            replace hK := mm_b2s hK; obtain ⟨v53, h53, e53, hK⟩ := hK
            refine mm_callS C (pc := 53) (d1 := 3) (As := [va_rf v48, .int v16, .int v23]) (st := [va_rf v43, va_rf v43]) (vk := (some (va_rf v53))) ((S_J7_copyOfRange_feecc (by omega)) e53) tT_J7_copyOfRange_feecc wd_432 wd_433 (by omega) (by decide) rfl (by simp [mm_crf, mm_cti, mm_ctl]) rfl dX7_lawOf_53 ?_
            show V _ _ (va_rf v53 :: _) _
            replace hK := mm_bd hK; obtain ⟨b56, e56, hK⟩ := hK
            subst e56
            replace hK := mm_bd hK; obtain ⟨h56, f56, hK⟩ := hK
            refine mm_callI C (pc := 56) (d1 := 1) (As := [va_rf v53]) (st := [va_rf (some b56)]) false ((S_X5_init (by omega)) f56) tT_X5_init rfl wd_743 wd_744 (by omega) (by decide) rfl (by simp [mm_crf, mm_cti, mm_ctl]) rfl dX7_lawOf_56 ?_
            cases hK
            exact mm_aret C (pc := 59) rfl (Or.inl ⟨_, rfl⟩) dX7_lawOf_59 rfl rfl
          · replace hK := mm_in hc hK
            refine mm_sub C [] rfl ?_
            exact w_X7_lawOf_41 hd C _ hK
    · replace hK := mm_in hc hK
      refine mm_sub C [] rfl ?_
      exact w_X7_lawOf_9 hd C _ hK
def F_X5_setVariables (a0 : Option Nat) (a1 : Int32) (a2 : Int32) (a3 : Int32) (a4 : Int32) (h : MH) : Option MH := (gR h a0 5 1).bind fun v1 => (sI h v1 0 (0 : Int32) a1).bind fun h6 => (gR h6 a0 5 1).bind fun v8 => (sI h6 v8 0 (1 : Int32) a2).bind fun h13 => (gR h13 a0 5 1).bind fun v15 => (sI h13 v15 0 (2 : Int32) a3).bind fun h20 => (gR h20 a0 5 1).bind fun v22 => (sI h20 v22 0 (3 : Int32) a4).bind fun h28 => some h28
set_option maxRecDepth 20000 in
set_option maxHeartbeats 4000000 in
theorem S_X5_setVariables {d : Nat} (hd : 1 ≤ d) {a0 : Option Nat} {a1 : Int32} {a2 : Int32} {a3 : Int32} {a4 : Int32} {h : MH} {hz : MH} (hK : F_X5_setVariables a0 a1 a2 a3 a4 h = some hz) : mm_M yX5_setVariables cX5_setVariables 5 none d [va_rf a0, .int a1, .int a2, .int a3, .int a4] h (.inr none) hz := by
  refine mm_ofV (by decide +kernel) (by simp [lg_sl, mm_crf, mm_cti, mm_ctl]) (fun V C => ?_)
  rw [show lv_args 0 [va_rf a0, .int a1, .int a2, .int a3, .int a4] = [(0, va_rf a0), (1, .int a1), (2, .int a2), (3, .int a3), (4, .int a4)] by simp [lv_args, mm_crf, mm_cti, mm_ctl]]
  unfold F_X5_setVariables at hK
  refine mm_aload_n C (pc := 0) 0 dX5_setVariables_0 rfl ?_
  replace hK := mm_bd hK; obtain ⟨v1, e1, hK⟩ := hK
  refine mm_getr C (pc := 1) (k := 1) inGX5 rfl (by decide) wd_748 dX5_setVariables_1 e1 ?_
  refine mm_iconst C (pc := 4) (v := (0 : Int32)) dX5_setVariables_4 (by decide) ?_
  refine mm_iload_n C (pc := 5) 1 dX5_setVariables_5 rfl ?_
  replace hK := mm_bd hK; obtain ⟨h6, e6, hK⟩ := hK
  refine mm_iast C (pc := 6) dX5_setVariables_6 e6 ?_
  refine mm_aload_n C (pc := 7) 0 dX5_setVariables_7 rfl ?_
  replace hK := mm_bd hK; obtain ⟨v8, e8, hK⟩ := hK
  refine mm_getr C (pc := 8) (k := 1) inGX5 rfl (by decide) wd_748 dX5_setVariables_8 e8 ?_
  refine mm_iconst C (pc := 11) (v := (1 : Int32)) dX5_setVariables_11 (by decide) ?_
  refine mm_iload_n C (pc := 12) 2 dX5_setVariables_12 rfl ?_
  replace hK := mm_bd hK; obtain ⟨h13, e13, hK⟩ := hK
  refine mm_iast C (pc := 13) dX5_setVariables_13 e13 ?_
  refine mm_aload_n C (pc := 14) 0 dX5_setVariables_14 rfl ?_
  replace hK := mm_bd hK; obtain ⟨v15, e15, hK⟩ := hK
  refine mm_getr C (pc := 15) (k := 1) inGX5 rfl (by decide) wd_748 dX5_setVariables_15 e15 ?_
  refine mm_iconst C (pc := 18) (v := (2 : Int32)) dX5_setVariables_18 (by decide) ?_
  refine mm_iload_n C (pc := 19) 3 dX5_setVariables_19 rfl ?_
  replace hK := mm_bd hK; obtain ⟨h20, e20, hK⟩ := hK
  refine mm_iast C (pc := 20) dX5_setVariables_20 e20 ?_
  refine mm_aload_n C (pc := 21) 0 dX5_setVariables_21 rfl ?_
  replace hK := mm_bd hK; obtain ⟨v22, e22, hK⟩ := hK
  refine mm_getr C (pc := 22) (k := 1) inGX5 rfl (by decide) wd_748 dX5_setVariables_22 e22 ?_
  refine mm_iconst C (pc := 25) (v := (3 : Int32)) dX5_setVariables_25 (by decide) ?_
  refine mm_iload C (pc := 26) 4 dX5_setVariables_26 rfl ?_
  replace hK := mm_bd hK; obtain ⟨h28, e28, hK⟩ := hK
  refine mm_iast C (pc := 28) dX5_setVariables_28 e28 ?_
  cases hK
  exact mm_vret C (pc := 29) rfl dX5_setVariables_29 rfl rfl
def F_X5_plain_26 (s0 : Int32) (h : MH) : Option (Int32 × MH) := some (s0, h)
set_option maxRecDepth 20000 in
set_option maxHeartbeats 4000000 in
theorem w_X5_plain_26 {d : Nat} {V : Nat → List (Nat × Value) → List Value → MH → Prop} {r : Int32} {hz : MH} (hd : 1 ≤ d) (C : mm_C d yX5_plain cX5_plain 3 (some .int) (.inr (some (.int r))) hz V) (s0 : Int32) (h : MH) (hK : F_X5_plain_26 s0 h = some (r, hz)) : V 26 [] [.int s0] h := by
  unfold F_X5_plain_26 at hK
  cases hK
  exact mm_iret C (pc := 26) rfl dX5_plain_26 rfl rfl
def F_X5_plain_25 (l1 : Int32) (h : MH) : Option (Int32 × MH) := F_X5_plain_26 l1 h
set_option maxRecDepth 20000 in
set_option maxHeartbeats 4000000 in
theorem w_X5_plain_25 {d : Nat} {V : Nat → List (Nat × Value) → List Value → MH → Prop} {r : Int32} {hz : MH} (hd : 1 ≤ d) (C : mm_C d yX5_plain cX5_plain 3 (some .int) (.inr (some (.int r))) hz V) (l1 : Int32) (h : MH) (hK : F_X5_plain_25 l1 h = some (r, hz)) : V 25 [(1, .int l1)] [] h := by
  unfold F_X5_plain_25 at hK
  refine mm_iload_n C (pc := 25) 0 dX5_plain_25 rfl ?_
  refine mm_sub C [] rfl ?_
  exact w_X5_plain_26 hd C _ _ hK
def F_X5_plain (a0 : Option Nat) (a1 : Int32) (h : MH) : Option (Int32 × MH) := if (a1 - (1000 : Int32)) < 0 then (F_X5_plain_25 a1 h) else (if (6 : Int32) ≤ (a1 - (1000 : Int32)) then (F_X5_plain_25 a1 h) else ((gR h a0 5 1).bind fun v17 => (aI h v17 0 (a1 - (1000 : Int32))).bind fun v21 => F_X5_plain_26 v21 h))
set_option maxRecDepth 20000 in
set_option maxHeartbeats 4000000 in
theorem S_X5_plain {d : Nat} (hd : 1 ≤ d) {a0 : Option Nat} {a1 : Int32} {h : MH} {r : Int32} {hz : MH} (hK : F_X5_plain a0 a1 h = some (r, hz)) : mm_M yX5_plain cX5_plain 3 (some .int) d [va_rf a0, .int a1] h (.inr (some (.int r))) hz := by
  refine mm_ofV (by decide +kernel) (by simp [lg_sl, mm_crf, mm_cti, mm_ctl]) (fun V C => ?_)
  rw [show lv_args 0 [va_rf a0, .int a1] = [(0, va_rf a0), (1, .int a1)] by simp [lv_args, mm_crf, mm_cti, mm_ctl]]
  unfold F_X5_plain at hK
  refine mm_iload_n C (pc := 0) 1 dX5_plain_0 rfl ?_
  refine mm_sipush C (pc := 1) (v := (1000 : Int32)) dX5_plain_1 (by decide) ?_
  refine mm_isub C (pc := 4) dX5_plain_4 ?_
  refine mm_istore_n C (pc := 5) (i := 2) (lv' := [(2, .int (a1 - (1000 : Int32))), (0, va_rf a0), (1, .int a1)]) dX5_plain_5 rfl (by decide) rfl ?_
  refine mm_iload_n C (pc := 6) 0 dX5_plain_6 rfl ?_
  refine mm_if_lt C (pc := 7) (tgt := 25) dX5_plain_7 (by decide) (fun hc => ?_) (fun hc => ?_)
  · replace hK := mm_ip hc hK
    refine mm_sub C [2] rfl ?_
    exact w_X5_plain_25 hd C _ _ hK
  · replace hK := mm_in hc hK
    refine mm_iload_n C (pc := 10) 0 dX5_plain_10 rfl ?_
    refine mm_bipush C (pc := 11) (v := (6 : Int32)) dX5_plain_11 (by decide) ?_
    refine mm_icmp_ge C (pc := 13) (tgt := 25) dX5_plain_13 (by decide) (fun hc => ?_) (fun hc => ?_)
    · replace hK := mm_ip hc hK
      refine mm_sub C [2] rfl ?_
      exact w_X5_plain_25 hd C _ _ hK
    · replace hK := mm_in hc hK
      refine mm_aload_n C (pc := 16) 1 dX5_plain_16 rfl ?_
      replace hK := mm_bd hK; obtain ⟨v17, e17, hK⟩ := hK
      refine mm_getr C (pc := 17) (k := 1) inGX5 rfl (by decide) wd_748 dX5_plain_17 e17 ?_
      refine mm_iload_n C (pc := 20) 0 dX5_plain_20 rfl ?_
      replace hK := mm_bd hK; obtain ⟨v21, e21, hK⟩ := hK
      refine mm_iald C (pc := 21) dX5_plain_21 e21 ?_
      refine mm_goto C (pc := 22) (tgt := 26) dX5_plain_22 (by decide) ?_
      refine mm_sub C [] rfl ?_
      exact w_X5_plain_26 hd C _ _ hK
theorem wd_769 : Cond.constantLong RX5 24 (1000000 : Int64) ∈ lw_good := mm_wd 769 (by decide +kernel) (by decide +kernel)
theorem wd_771 : Cond.constantLong RX5 27 ((-1000000) : Int64) ∈ lw_good := mm_wd 771 (by decide +kernel) (by decide +kernel)
theorem wd_772 : Cond.constant RX5 29 ((-1000000) : Int32) ∈ lw_good := mm_wd 772 (by decide +kernel) (by decide +kernel)
theorem wd_770 : Cond.constant RX5 26 (1000000 : Int32) ∈ lw_good := mm_wd 770 (by decide +kernel) (by decide +kernel)
def F_X5_join_46 (s0 : Int32) (h : MH) : Option (Int32 × MH) := some (s0, h)
set_option maxRecDepth 20000 in
set_option maxHeartbeats 4000000 in
theorem w_X5_join_46 {d : Nat} {V : Nat → List (Nat × Value) → List Value → MH → Prop} {r : Int32} {hz : MH} (hd : 1 ≤ d) (C : mm_C d yX5_join cX5_join 5 (some .int) (.inr (some (.int r))) hz V) (s0 : Int32) (h : MH) (hK : F_X5_join_46 s0 h = some (r, hz)) : V 46 [] [.int s0] h := by
  unfold F_X5_join_46 at hK
  cases hK
  exact mm_iret C (pc := 46) rfl dX5_join_46 rfl rfl
def F_X5_join_57 (s0 : Int32) (h : MH) : Option (Int32 × MH) := some (s0, h)
set_option maxRecDepth 20000 in
set_option maxHeartbeats 4000000 in
theorem w_X5_join_57 {d : Nat} {V : Nat → List (Nat × Value) → List Value → MH → Prop} {r : Int32} {hz : MH} (hd : 1 ≤ d) (C : mm_C d yX5_join cX5_join 5 (some .int) (.inr (some (.int r))) hz V) (s0 : Int32) (h : MH) (hK : F_X5_join_57 s0 h = some (r, hz)) : V 57 [] [.int s0] h := by
  unfold F_X5_join_57 at hK
  cases hK
  exact mm_iret C (pc := 57) rfl dX5_join_57 rfl rfl
def F_X5_join_68 (s0 : Int32) (h : MH) : Option (Int32 × MH) := some (s0, h)
set_option maxRecDepth 20000 in
set_option maxHeartbeats 4000000 in
theorem w_X5_join_68 {d : Nat} {V : Nat → List (Nat × Value) → List Value → MH → Prop} {r : Int32} {hz : MH} (hd : 1 ≤ d) (C : mm_C d yX5_join cX5_join 5 (some .int) (.inr (some (.int r))) hz V) (s0 : Int32) (h : MH) (hK : F_X5_join_68 s0 h = some (r, hz)) : V 68 [] [.int s0] h := by
  unfold F_X5_join_68 at hK
  cases hK
  exact mm_iret C (pc := 68) rfl dX5_join_68 rfl rfl
def F_X5_join_139 (s0 : Int32) (h : MH) : Option (Int32 × MH) := some (s0, h)
set_option maxRecDepth 20000 in
set_option maxHeartbeats 4000000 in
theorem w_X5_join_139 {d : Nat} {V : Nat → List (Nat × Value) → List Value → MH → Prop} {r : Int32} {hz : MH} (hd : 1 ≤ d) (C : mm_C d yX5_join cX5_join 5 (some .int) (.inr (some (.int r))) hz V) (s0 : Int32) (h : MH) (hK : F_X5_join_139 s0 h = some (r, hz)) : V 139 [] [.int s0] h := by
  unfold F_X5_join_139 at hK
  cases hK
  exact mm_iret C (pc := 139) rfl dX5_join_139 rfl rfl
def F_X5_join_112 (s0 : Int64) (h : MH) : Option (Int32 × MH) := if (lg_cmp s0 (1000000 : Int64)) ≤ 0 then (if 0 ≤ (lg_cmp s0 ((-1000000) : Int64)) then (F_X5_join_139 (s0.toInt32) h) else (F_X5_join_139 ((-1000000) : Int32) h)) else (some ((1000000 : Int32), h))
set_option maxRecDepth 20000 in
set_option maxHeartbeats 4000000 in
theorem w_X5_join_112 {d : Nat} {V : Nat → List (Nat × Value) → List Value → MH → Prop} {r : Int32} {hz : MH} (hd : 1 ≤ d) (C : mm_C d yX5_join cX5_join 5 (some .int) (.inr (some (.int r))) hz V) (s0 : Int64) (h : MH) (hK : F_X5_join_112 s0 h = some (r, hz)) : V 112 [] [.long s0] h := by
  unfold F_X5_join_112 at hK
  refine mm_lstore_n C (pc := 112) (i := 3) (lv' := [(3, .long s0)]) dX5_join_112 rfl (by decide) rfl ?_
  refine mm_lload_n C (pc := 113) 0 dX5_join_113 rfl ?_
  refine mm_ldc2 C (pc := 114) (v := (1000000 : Int64)) dX5_join_114 wd_769 ?_
  refine mm_lcmp C (pc := 117) dX5_join_117 ?_
  refine mm_if_le C (pc := 118) (tgt := 124) dX5_join_118 (by decide) (fun hc => ?_) (fun hc => ?_)
  · replace hK := mm_ip hc hK
    refine mm_lload_n C (pc := 124) 0 dX5_join_124 rfl ?_
    refine mm_ldc2 C (pc := 125) (v := ((-1000000) : Int64)) dX5_join_125 wd_771 ?_
    refine mm_lcmp C (pc := 128) dX5_join_128 ?_
    refine mm_if_ge C (pc := 129) (tgt := 137) dX5_join_129 (by decide) (fun hc => ?_) (fun hc => ?_)
    · replace hK := mm_ip hc hK
      refine mm_lload_n C (pc := 137) 0 dX5_join_137 rfl ?_
      refine mm_l2i C (pc := 138) dX5_join_138 ?_
      refine mm_sub C [] rfl ?_
      exact w_X5_join_139 hd C _ _ hK
    · replace hK := mm_in hc hK
      refine mm_ldc C (pc := 132) (v := ((-1000000) : Int32)) dX5_join_132 wd_772 ?_
      refine mm_goto C (pc := 134) (tgt := 139) dX5_join_134 (by decide) ?_
      refine mm_sub C [] rfl ?_
      exact w_X5_join_139 hd C _ _ hK
  · replace hK := mm_in hc hK
    refine mm_ldc C (pc := 121) (v := (1000000 : Int32)) dX5_join_121 wd_770 ?_
    cases hK
    exact mm_iret C (pc := 123) rfl dX5_join_123 rfl rfl
def F_X5_join (a0 : Int32) (a1 : Int32) (a2 : Int32) (h : MH) : Option (Int32 × MH) := if a0 = (2003 : Int32) then (if a1 = a2 then (F_X5_join_46 (1 : Int32) h) else (F_X5_join_46 (0 : Int32) h)) else if a0 = (2004 : Int32) then (if a2 ≤ a1 then (F_X5_join_57 (0 : Int32) h) else (F_X5_join_57 (1 : Int32) h)) else if a0 = (2005 : Int32) then (if a1 ≤ a2 then (F_X5_join_68 (0 : Int32) h) else (F_X5_join_68 (1 : Int32) h)) else if a0 = (2006 : Int32) then (some ((a1 &&& a2), h)) else if a0 = (2007 : Int32) then (some ((a1 ||| a2), h)) else (if a0 = (2000 : Int32) then (F_X5_join_112 ((a1.toInt64) + (a2.toInt64)) h) else (if a0 = (2001 : Int32) then (F_X5_join_112 ((a1.toInt64) - (a2.toInt64)) h) else (F_X5_join_112 ((a1.toInt64) * (a2.toInt64)) h)))
set_option maxRecDepth 20000 in
set_option maxHeartbeats 4000000 in
theorem S_X5_join {d : Nat} (hd : 1 ≤ d) {a0 : Int32} {a1 : Int32} {a2 : Int32} {h : MH} {r : Int32} {hz : MH} (hK : F_X5_join a0 a1 a2 h = some (r, hz)) : mm_M yX5_join cX5_join 5 (some .int) d [.int a0, .int a1, .int a2] h (.inr (some (.int r))) hz := by
  refine mm_ofV (by decide +kernel) (by simp [lg_sl, mm_crf, mm_cti, mm_ctl]) (fun V C => ?_)
  rw [show lv_args 0 [.int a0, .int a1, .int a2] = [(0, .int a0), (1, .int a1), (2, .int a2)] by simp [lv_args, mm_crf, mm_cti, mm_ctl]]
  unfold F_X5_join at hK
  refine mm_iload_n C (pc := 0) 0 dX5_join_0 rfl ?_
  by_cases hc1_2003 : a0 = (2003 : Int32)
  · replace hK := mm_ip hc1_2003 hK
    refine mm_tableIn C (pc := 1) (tgt := 36) (off := 35) dX5_join_1 (by rw [hc1_2003]; decide) (by rw [hc1_2003]; decide) (by rw [hc1_2003]; rfl) (by decide) ?_
    refine mm_iload_n C (pc := 36) 1 dX5_join_36 rfl ?_
    refine mm_iload_n C (pc := 37) 2 dX5_join_37 rfl ?_
    refine mm_icmp_ne C (pc := 38) (tgt := 45) dX5_join_38 (by decide) (fun hc => ?_) (fun hc => ?_)
    · replace hK := mm_in hc hK
      refine mm_iconst C (pc := 45) (v := (0 : Int32)) dX5_join_45 (by decide) ?_
      refine mm_sub C [] rfl ?_
      exact w_X5_join_46 hd C _ _ hK
    · replace hK := mm_ip hc hK
      refine mm_iconst C (pc := 41) (v := (1 : Int32)) dX5_join_41 (by decide) ?_
      refine mm_goto C (pc := 42) (tgt := 46) dX5_join_42 (by decide) ?_
      refine mm_sub C [] rfl ?_
      exact w_X5_join_46 hd C _ _ hK
  replace hK := mm_in hc1_2003 hK
  by_cases hc1_2004 : a0 = (2004 : Int32)
  · replace hK := mm_ip hc1_2004 hK
    refine mm_tableIn C (pc := 1) (tgt := 47) (off := 46) dX5_join_1 (by rw [hc1_2004]; decide) (by rw [hc1_2004]; decide) (by rw [hc1_2004]; rfl) (by decide) ?_
    refine mm_iload_n C (pc := 47) 1 dX5_join_47 rfl ?_
    refine mm_iload_n C (pc := 48) 2 dX5_join_48 rfl ?_
    refine mm_icmp_ge C (pc := 49) (tgt := 56) dX5_join_49 (by decide) (fun hc => ?_) (fun hc => ?_)
    · replace hK := mm_ip hc hK
      refine mm_iconst C (pc := 56) (v := (0 : Int32)) dX5_join_56 (by decide) ?_
      refine mm_sub C [] rfl ?_
      exact w_X5_join_57 hd C _ _ hK
    · replace hK := mm_in hc hK
      refine mm_iconst C (pc := 52) (v := (1 : Int32)) dX5_join_52 (by decide) ?_
      refine mm_goto C (pc := 53) (tgt := 57) dX5_join_53 (by decide) ?_
      refine mm_sub C [] rfl ?_
      exact w_X5_join_57 hd C _ _ hK
  replace hK := mm_in hc1_2004 hK
  by_cases hc1_2005 : a0 = (2005 : Int32)
  · replace hK := mm_ip hc1_2005 hK
    refine mm_tableIn C (pc := 1) (tgt := 58) (off := 57) dX5_join_1 (by rw [hc1_2005]; decide) (by rw [hc1_2005]; decide) (by rw [hc1_2005]; rfl) (by decide) ?_
    refine mm_iload_n C (pc := 58) 1 dX5_join_58 rfl ?_
    refine mm_iload_n C (pc := 59) 2 dX5_join_59 rfl ?_
    refine mm_icmp_le C (pc := 60) (tgt := 67) dX5_join_60 (by decide) (fun hc => ?_) (fun hc => ?_)
    · replace hK := mm_ip hc hK
      refine mm_iconst C (pc := 67) (v := (0 : Int32)) dX5_join_67 (by decide) ?_
      refine mm_sub C [] rfl ?_
      exact w_X5_join_68 hd C _ _ hK
    · replace hK := mm_in hc hK
      refine mm_iconst C (pc := 63) (v := (1 : Int32)) dX5_join_63 (by decide) ?_
      refine mm_goto C (pc := 64) (tgt := 68) dX5_join_64 (by decide) ?_
      refine mm_sub C [] rfl ?_
      exact w_X5_join_68 hd C _ _ hK
  replace hK := mm_in hc1_2005 hK
  by_cases hc1_2006 : a0 = (2006 : Int32)
  · replace hK := mm_ip hc1_2006 hK
    refine mm_tableIn C (pc := 1) (tgt := 69) (off := 68) dX5_join_1 (by rw [hc1_2006]; decide) (by rw [hc1_2006]; decide) (by rw [hc1_2006]; rfl) (by decide) ?_
    refine mm_iload_n C (pc := 69) 1 dX5_join_69 rfl ?_
    refine mm_iload_n C (pc := 70) 2 dX5_join_70 rfl ?_
    refine mm_iand C (pc := 71) dX5_join_71 ?_
    cases hK
    exact mm_iret C (pc := 72) rfl dX5_join_72 rfl rfl
  replace hK := mm_in hc1_2006 hK
  by_cases hc1_2007 : a0 = (2007 : Int32)
  · replace hK := mm_ip hc1_2007 hK
    refine mm_tableIn C (pc := 1) (tgt := 73) (off := 72) dX5_join_1 (by rw [hc1_2007]; decide) (by rw [hc1_2007]; decide) (by rw [hc1_2007]; rfl) (by decide) ?_
    refine mm_iload_n C (pc := 73) 1 dX5_join_73 rfl ?_
    refine mm_iload_n C (pc := 74) 2 dX5_join_74 rfl ?_
    refine mm_ior C (pc := 75) dX5_join_75 ?_
    cases hK
    exact mm_iret C (pc := 76) rfl dX5_join_76 rfl rfl
  replace hK := mm_in hc1_2007 hK
  refine mm_tableOut C (pc := 1) (tgt := 77) dX5_join_1 (by have t2003 := mm_nei hc1_2003 (k := 2003) (by decide); have t2004 := mm_nei hc1_2004 (k := 2004) (by decide); have t2005 := mm_nei hc1_2005 (k := 2005) (by decide); have t2006 := mm_nei hc1_2006 (k := 2006) (by decide); have t2007 := mm_nei hc1_2007 (k := 2007) (by decide); omega) (by decide) ?_
  refine mm_iload_n C (pc := 77) 0 dX5_join_77 rfl ?_
  refine mm_sipush C (pc := 78) (v := (2000 : Int32)) dX5_join_78 (by decide) ?_
  refine mm_icmp_ne C (pc := 81) (tgt := 92) dX5_join_81 (by decide) (fun hc => ?_) (fun hc => ?_)
  · replace hK := mm_in hc hK
    refine mm_iload_n C (pc := 92) 0 dX5_join_92 rfl ?_
    refine mm_sipush C (pc := 93) (v := (2001 : Int32)) dX5_join_93 (by decide) ?_
    refine mm_icmp_ne C (pc := 96) (tgt := 107) dX5_join_96 (by decide) (fun hc => ?_) (fun hc => ?_)
    · replace hK := mm_in hc hK
      refine mm_iload_n C (pc := 107) 1 dX5_join_107 rfl ?_
      refine mm_i2l C (pc := 108) dX5_join_108 ?_
      refine mm_iload_n C (pc := 109) 2 dX5_join_109 rfl ?_
      refine mm_i2l C (pc := 110) dX5_join_110 ?_
      refine mm_lmul C (pc := 111) dX5_join_111 ?_
      refine mm_sub C [] rfl ?_
      exact w_X5_join_112 hd C _ _ hK
    · replace hK := mm_ip hc hK
      refine mm_iload_n C (pc := 99) 1 dX5_join_99 rfl ?_
      refine mm_i2l C (pc := 100) dX5_join_100 ?_
      refine mm_iload_n C (pc := 101) 2 dX5_join_101 rfl ?_
      refine mm_i2l C (pc := 102) dX5_join_102 ?_
      refine mm_lsub C (pc := 103) dX5_join_103 ?_
      refine mm_goto C (pc := 104) (tgt := 112) dX5_join_104 (by decide) ?_
      refine mm_sub C [] rfl ?_
      exact w_X5_join_112 hd C _ _ hK
  · replace hK := mm_ip hc hK
    refine mm_iload_n C (pc := 84) 1 dX5_join_84 rfl ?_
    refine mm_i2l C (pc := 85) dX5_join_85 ?_
    refine mm_iload_n C (pc := 86) 2 dX5_join_86 rfl ?_
    refine mm_i2l C (pc := 87) dX5_join_87 ?_
    refine mm_ladd C (pc := 88) dX5_join_88 ?_
    refine mm_goto C (pc := 89) (tgt := 112) dX5_join_89 (by decide) ?_
    refine mm_sub C [] rfl ?_
    exact w_X5_join_112 hd C _ _ hK
theorem wd_768 : Cond.code yX5_join cX5_join 5 (some .int) ∈ lw_good := mm_wd 768 (by decide +kernel) (by decide +kernel)
theorem tT_X5_join : mm_T yX5_join cX5_join 5 (some .int) 3 := ⟨wd_768, wd_153, by decide +kernel, by decide +kernel, by decide +kernel, by decide +kernel⟩
theorem wd_766 : Cond.methodLink RX5 20 yX5_join ∈ lw_good := mm_wd 766 (by decide +kernel) (by decide +kernel)
theorem wd_767 : Cond.static yX5_join ∈ lw_good := mm_wd 767 (by decide +kernel) (by decide +kernel)
theorem wd_765 : Cond.code yX5_plain cX5_plain 3 (some .int) ∈ lw_good := mm_wd 765 (by decide +kernel) (by decide +kernel)
theorem tT_X5_plain : mm_T yX5_plain cX5_plain 3 (some .int) 1 := ⟨wd_765, wd_153, by decide +kernel, by decide +kernel, by decide +kernel, by decide +kernel⟩
theorem wd_762 : Cond.methodLink RX5 16 yX5_plain ∈ lw_good := mm_wd 762 (by decide +kernel) (by decide +kernel)
theorem wd_764 : Cond.instanceMethod yX5_plain ∈ lw_good := mm_wd 764 (by decide +kernel) (by decide +kernel)
theorem wd_1 : Cond.selects RX5 yX5_plain yX5_plain ∈ lw_good := mm_wd 1 (by decide +kernel) (by decide +kernel)
def F_X5_value_114 (k5 : Option Nat → Int32 → Int32 → MH → Option (Int32 × MH)) (l0 : Option Nat) (l1 : Int32) (l2 : Int32) (h : MH) : Option (Int32 × MH) := k5 l0 l1 (l2 + (1 : Int32)) h
set_option maxRecDepth 20000 in
set_option maxHeartbeats 4000000 in
theorem w_X5_value_114 {d : Nat} {V : Nat → List (Nat × Value) → List Value → MH → Prop} {r : Int32} {hz : MH} {k5 : Option Nat → Int32 → Int32 → MH → Option (Int32 × MH)} (hd : 2 ≤ d) (C : mm_C d yX5_value cX5_value 4 (some .int) (.inr (some (.int r))) hz V) (q5 : ∀ (x0 : Option Nat) (x1 : Int32) (x2 : Int32) (h : MH), k5 x0 x1 x2 h = some (r, hz) → V 5 [(0, va_rf x0), (1, .int x1), (2, .int x2)] [] h) (l0 : Option Nat) (l1 : Int32) (l2 : Int32) (h : MH) (hK : F_X5_value_114 k5 l0 l1 l2 h = some (r, hz)) : V 114 [(0, va_rf l0), (1, .int l1), (2, .int l2)] [] h := by
  unfold F_X5_value_114 at hK
  refine mm_iinc C (pc := 114) (v := (l2 + (1 : Int32))) (lv' := [(2, .int (l2 + (1 : Int32))), (0, va_rf l0), (1, .int l1)]) 2 dX5_value_114 rfl rfl (by decide) rfl ?_
  refine mm_goto C (pc := 117) (tgt := 5) dX5_value_117 (by decide) ?_
  refine mm_sub C [1, 2, 0] rfl ?_
  exact q5 _ _ _ _ hK
def F_X5_value_5 : Nat → Option Nat → Int32 → Int32 → MH → Option (Int32 × MH)
  | 0 => fun _ _ _ _ => none
  | n + 1 => fun l0 l1 l2 h => (gR h l0 5 0).bind fun v7 => (aNt h v7 0).bind fun v10 => if v10 ≤ l2 then ((gR h l0 5 1).bind fun v121 => (aI h v121 0 (l1 - (1 : Int32))).bind fun v127 => some (v127, h)) else ((gR h l0 5 0).bind fun v15 => (aI h v15 0 l2).bind fun v19 => if (2000 : Int32) ≤ v19 then (if v19 = (2008 : Int32) then ((gR h l0 5 1).bind fun v59 => (gR h l0 5 1).bind fun v67 => (aI h v67 0 (l1 - (1 : Int32))).bind fun v73 => (sI h v59 0 (l1 - (1 : Int32)) ((1 : Int32) - v73)).bind fun h75 => F_X5_value_114 (F_X5_value_5 n) l0 l1 l2 h75) else (if l1 ≤ (7 : Int32) then (F_X5_value_114 (F_X5_value_5 n) l0 l1 l2 h) else ((gR h l0 5 1).bind fun v89 => (gR h l0 5 1).bind fun v97 => (aI h v97 0 ((l1 + ((-1) : Int32)) - (1 : Int32))).bind fun v103 => (gR h l0 5 1).bind fun v105 => (aI h v105 0 (l1 + ((-1) : Int32))).bind fun v109 => mm_b2 (F_X5_join v19 v103 v109 h) fun v110 h110 => (sI h110 v89 0 ((l1 + ((-1) : Int32)) - (1 : Int32)) v110).bind fun h113 => F_X5_value_114 (F_X5_value_5 n) l0 (l1 + ((-1) : Int32)) l2 h113))) else (if (32 : Int32) ≤ l1 then (F_X5_value_114 (F_X5_value_5 n) l0 l1 l2 h) else ((gR h l0 5 1).bind fun v35 => mm_b2 (cV h l0 5 (F_X5_plain l0 v19 h)) fun v41 h41 => (sI h41 v35 0 l1 v41).bind fun h44 => F_X5_value_114 (F_X5_value_5 n) l0 (l1 + (1 : Int32)) l2 h44)))
set_option maxRecDepth 20000 in
set_option maxHeartbeats 4000000 in
theorem w_X5_value_5 {d : Nat} {V : Nat → List (Nat × Value) → List Value → MH → Prop} {r : Int32} {hz : MH} (hd : 2 ≤ d) (C : mm_C d yX5_value cX5_value 4 (some .int) (.inr (some (.int r))) hz V) : ∀ (n : Nat) (l0 : Option Nat) (l1 : Int32) (l2 : Int32) (h : MH), F_X5_value_5 n l0 l1 l2 h = some (r, hz) → V 5 [(0, va_rf l0), (1, .int l1), (2, .int l2)] [] h := by
  intro n
  induction n with
  | zero => intro l0 l1 l2 h hK; cases hK
  | succ n ih =>
    intro l0 l1 l2 h hK
    replace hK : ((gR h l0 5 0).bind fun v7 => (aNt h v7 0).bind fun v10 => if v10 ≤ l2 then ((gR h l0 5 1).bind fun v121 => (aI h v121 0 (l1 - (1 : Int32))).bind fun v127 => some (v127, h)) else ((gR h l0 5 0).bind fun v15 => (aI h v15 0 l2).bind fun v19 => if (2000 : Int32) ≤ v19 then (if v19 = (2008 : Int32) then ((gR h l0 5 1).bind fun v59 => (gR h l0 5 1).bind fun v67 => (aI h v67 0 (l1 - (1 : Int32))).bind fun v73 => (sI h v59 0 (l1 - (1 : Int32)) ((1 : Int32) - v73)).bind fun h75 => F_X5_value_114 (F_X5_value_5 n) l0 l1 l2 h75) else (if l1 ≤ (7 : Int32) then (F_X5_value_114 (F_X5_value_5 n) l0 l1 l2 h) else ((gR h l0 5 1).bind fun v89 => (gR h l0 5 1).bind fun v97 => (aI h v97 0 ((l1 + ((-1) : Int32)) - (1 : Int32))).bind fun v103 => (gR h l0 5 1).bind fun v105 => (aI h v105 0 (l1 + ((-1) : Int32))).bind fun v109 => mm_b2 (F_X5_join v19 v103 v109 h) fun v110 h110 => (sI h110 v89 0 ((l1 + ((-1) : Int32)) - (1 : Int32)) v110).bind fun h113 => F_X5_value_114 (F_X5_value_5 n) l0 (l1 + ((-1) : Int32)) l2 h113))) else (if (32 : Int32) ≤ l1 then (F_X5_value_114 (F_X5_value_5 n) l0 l1 l2 h) else ((gR h l0 5 1).bind fun v35 => mm_b2 (cV h l0 5 (F_X5_plain l0 v19 h)) fun v41 h41 => (sI h41 v35 0 l1 v41).bind fun h44 => F_X5_value_114 (F_X5_value_5 n) l0 (l1 + (1 : Int32)) l2 h44)))) = some (r, hz) := hK
    refine mm_iload_n C (pc := 5) 2 dX5_value_5 rfl ?_
    refine mm_aload_n C (pc := 6) 0 dX5_value_6 rfl ?_
    replace hK := mm_bd hK; obtain ⟨v7, e7, hK⟩ := hK
    refine mm_getr C (pc := 7) (k := 0) inGX5 rfl (by decide) wd_747 dX5_value_7 e7 ?_
    replace hK := mm_bd hK; obtain ⟨v10, e10, hK⟩ := hK
    refine mm_alenI C (pc := 10) dX5_value_10 e10 ?_
    refine mm_icmp_ge C (pc := 11) (tgt := 120) dX5_value_11 (by decide) (fun hc => ?_) (fun hc => ?_)
    · replace hK := mm_ip hc hK
      refine mm_aload_n C (pc := 120) 0 dX5_value_120 rfl ?_
      replace hK := mm_bd hK; obtain ⟨v121, e121, hK⟩ := hK
      refine mm_getr C (pc := 121) (k := 1) inGX5 rfl (by decide) wd_748 dX5_value_121 e121 ?_
      refine mm_iload_n C (pc := 124) 1 dX5_value_124 rfl ?_
      refine mm_iconst C (pc := 125) (v := (1 : Int32)) dX5_value_125 (by decide) ?_
      refine mm_isub C (pc := 126) dX5_value_126 ?_
      replace hK := mm_bd hK; obtain ⟨v127, e127, hK⟩ := hK
      refine mm_iald C (pc := 127) dX5_value_127 e127 ?_
      cases hK
      exact mm_iret C (pc := 128) rfl dX5_value_128 rfl rfl
    · replace hK := mm_in hc hK
      refine mm_aload_n C (pc := 14) 0 dX5_value_14 rfl ?_
      replace hK := mm_bd hK; obtain ⟨v15, e15, hK⟩ := hK
      refine mm_getr C (pc := 15) (k := 0) inGX5 rfl (by decide) wd_747 dX5_value_15 e15 ?_
      refine mm_iload_n C (pc := 18) 2 dX5_value_18 rfl ?_
      replace hK := mm_bd hK; obtain ⟨v19, e19, hK⟩ := hK
      refine mm_iald C (pc := 19) dX5_value_19 e19 ?_
      refine mm_istore_n C (pc := 20) (i := 3) (lv' := [(3, .int v19), (0, va_rf l0), (1, .int l1), (2, .int l2)]) dX5_value_20 rfl (by decide) rfl ?_
      refine mm_iload_n C (pc := 21) 0 dX5_value_21 rfl ?_
      refine mm_sipush C (pc := 22) (v := (2000 : Int32)) dX5_value_22 (by decide) ?_
      refine mm_icmp_ge C (pc := 25) (tgt := 51) dX5_value_25 (by decide) (fun hc => ?_) (fun hc => ?_)
      · replace hK := mm_ip hc hK
        refine mm_iload_n C (pc := 51) 0 dX5_value_51 rfl ?_
        refine mm_sipush C (pc := 52) (v := (2008 : Int32)) dX5_value_52 (by decide) ?_
        refine mm_icmp_ne C (pc := 55) (tgt := 79) dX5_value_55 (by decide) (fun hc => ?_) (fun hc => ?_)
        · replace hK := mm_in hc hK
          refine mm_iload_n C (pc := 79) 2 dX5_value_79 rfl ?_
          refine mm_bipush C (pc := 80) (v := (7 : Int32)) dX5_value_80 (by decide) ?_
          refine mm_icmp_le C (pc := 82) (tgt := 114) dX5_value_82 (by decide) (fun hc => ?_) (fun hc => ?_)
          · replace hK := mm_ip hc hK
            refine mm_sub C [1, 2, 3] rfl ?_
            exact w_X5_value_114 hd C (fun z0 z1 z2 z3 hK => ih z0 z1 z2 z3 hK) _ _ _ _ hK
          · replace hK := mm_in hc hK
            refine mm_iinc C (pc := 85) (v := (l1 + ((-1) : Int32))) (lv' := [(1, .int (l1 + ((-1) : Int32))), (3, .int v19), (0, va_rf l0), (2, .int l2)]) 2 dX5_value_85 rfl rfl (by decide) (by simp [mm_crf]) ?_
            refine mm_aload_n C (pc := 88) 2 dX5_value_88 rfl ?_
            replace hK := mm_bd hK; obtain ⟨v89, e89, hK⟩ := hK
            refine mm_getr C (pc := 89) (k := 1) inGX5 rfl (by decide) wd_748 dX5_value_89 e89 ?_
            refine mm_iload_n C (pc := 92) 0 dX5_value_92 rfl ?_
            refine mm_iconst C (pc := 93) (v := (1 : Int32)) dX5_value_93 (by decide) ?_
            refine mm_isub C (pc := 94) dX5_value_94 ?_
            refine mm_iload_n C (pc := 95) 1 dX5_value_95 rfl ?_
            refine mm_aload_n C (pc := 96) 2 dX5_value_96 rfl ?_
            replace hK := mm_bd hK; obtain ⟨v97, e97, hK⟩ := hK
            refine mm_getr C (pc := 97) (k := 1) inGX5 rfl (by decide) wd_748 dX5_value_97 e97 ?_
            refine mm_iload_n C (pc := 100) 0 dX5_value_100 rfl ?_
            refine mm_iconst C (pc := 101) (v := (1 : Int32)) dX5_value_101 (by decide) ?_
            refine mm_isub C (pc := 102) dX5_value_102 ?_
            replace hK := mm_bd hK; obtain ⟨v103, e103, hK⟩ := hK
            refine mm_iald C (pc := 103) dX5_value_103 e103 ?_
            refine mm_aload_n C (pc := 104) 2 dX5_value_104 rfl ?_
            replace hK := mm_bd hK; obtain ⟨v105, e105, hK⟩ := hK
            refine mm_getr C (pc := 105) (k := 1) inGX5 rfl (by decide) wd_748 dX5_value_105 e105 ?_
            refine mm_iload_n C (pc := 108) 0 dX5_value_108 rfl ?_
            replace hK := mm_bd hK; obtain ⟨v109, e109, hK⟩ := hK
            refine mm_iald C (pc := 109) dX5_value_109 e109 ?_
            replace hK := mm_b2s hK; obtain ⟨v110, h110, e110, hK⟩ := hK
            refine mm_callS C (pc := 110) (d1 := 1) (As := [.int v19, .int v103, .int v109]) (st := [.int ((l1 + ((-1) : Int32)) - (1 : Int32)), va_rf v89]) (vk := (some (.int v110))) ((S_X5_join (by omega)) e110) tT_X5_join wd_766 wd_767 (by omega) (by decide) rfl (by simp [mm_crf, mm_cti, mm_ctl]) rfl dX5_value_110 ?_
            show V _ _ (.int v110 :: _) _
            replace hK := mm_bd hK; obtain ⟨h113, e113, hK⟩ := hK
            refine mm_iast C (pc := 113) dX5_value_113 e113 ?_
            refine mm_sub C [2, 0, 3] rfl ?_
            exact w_X5_value_114 hd C (fun z0 z1 z2 z3 hK => ih z0 z1 z2 z3 hK) _ _ _ _ hK
        · replace hK := mm_ip hc hK
          refine mm_aload_n C (pc := 58) 1 dX5_value_58 rfl ?_
          replace hK := mm_bd hK; obtain ⟨v59, e59, hK⟩ := hK
          refine mm_getr C (pc := 59) (k := 1) inGX5 rfl (by decide) wd_748 dX5_value_59 e59 ?_
          refine mm_iload_n C (pc := 62) 2 dX5_value_62 rfl ?_
          refine mm_iconst C (pc := 63) (v := (1 : Int32)) dX5_value_63 (by decide) ?_
          refine mm_isub C (pc := 64) dX5_value_64 ?_
          refine mm_iconst C (pc := 65) (v := (1 : Int32)) dX5_value_65 (by decide) ?_
          refine mm_aload_n C (pc := 66) 1 dX5_value_66 rfl ?_
          replace hK := mm_bd hK; obtain ⟨v67, e67, hK⟩ := hK
          refine mm_getr C (pc := 67) (k := 1) inGX5 rfl (by decide) wd_748 dX5_value_67 e67 ?_
          refine mm_iload_n C (pc := 70) 2 dX5_value_70 rfl ?_
          refine mm_iconst C (pc := 71) (v := (1 : Int32)) dX5_value_71 (by decide) ?_
          refine mm_isub C (pc := 72) dX5_value_72 ?_
          replace hK := mm_bd hK; obtain ⟨v73, e73, hK⟩ := hK
          refine mm_iald C (pc := 73) dX5_value_73 e73 ?_
          refine mm_isub C (pc := 74) dX5_value_74 ?_
          replace hK := mm_bd hK; obtain ⟨h75, e75, hK⟩ := hK
          refine mm_iast C (pc := 75) dX5_value_75 e75 ?_
          refine mm_goto C (pc := 76) (tgt := 114) dX5_value_76 (by decide) ?_
          refine mm_sub C [1, 2, 3] rfl ?_
          exact w_X5_value_114 hd C (fun z0 z1 z2 z3 hK => ih z0 z1 z2 z3 hK) _ _ _ _ hK
      · replace hK := mm_in hc hK
        refine mm_iload_n C (pc := 28) 2 dX5_value_28 rfl ?_
        refine mm_bipush C (pc := 29) (v := (32 : Int32)) dX5_value_29 (by decide) ?_
        refine mm_icmp_ge C (pc := 31) (tgt := 114) dX5_value_31 (by decide) (fun hc => ?_) (fun hc => ?_)
        · replace hK := mm_ip hc hK
          refine mm_sub C [1, 2, 3] rfl ?_
          exact w_X5_value_114 hd C (fun z0 z1 z2 z3 hK => ih z0 z1 z2 z3 hK) _ _ _ _ hK
        · replace hK := mm_in hc hK
          refine mm_aload_n C (pc := 34) 1 dX5_value_34 rfl ?_
          replace hK := mm_bd hK; obtain ⟨v35, e35, hK⟩ := hK
          refine mm_getr C (pc := 35) (k := 1) inGX5 rfl (by decide) wd_748 dX5_value_35 e35 ?_
          refine mm_iload_n C (pc := 38) 2 dX5_value_38 rfl ?_
          refine mm_aload_n C (pc := 39) 1 dX5_value_39 rfl ?_
          refine mm_iload_n C (pc := 40) 0 dX5_value_40 rfl ?_
          replace hK := mm_b2s hK; obtain ⟨v41, h41, e41, hK⟩ := hK
          obtain ⟨o41, e41⟩ := cV_some e41
          refine mm_callV C (pc := 41) (d1 := 1) (As := [.int v19]) (st := [.int l1, va_rf v35]) (vk := (some (.int v41))) ((S_X5_plain (by omega)) e41) tT_X5_plain o41 (Or.inr ⟨_, rfl, rfl⟩) wd_762 wd_764 wd_1 (by omega) (by decide) rfl (by simp [mm_crf, mm_cti, mm_ctl]) rfl dX5_value_41 ?_
          show V _ _ (.int v41 :: _) _
          replace hK := mm_bd hK; obtain ⟨h44, e44, hK⟩ := hK
          refine mm_iast C (pc := 44) dX5_value_44 e44 ?_
          refine mm_iinc C (pc := 45) (v := (l1 + (1 : Int32))) (lv' := [(1, .int (l1 + (1 : Int32))), (3, .int v19), (0, va_rf l0), (2, .int l2)]) 2 dX5_value_45 rfl rfl (by decide) (by simp [mm_crf]) ?_
          refine mm_goto C (pc := 48) (tgt := 114) dX5_value_48 (by decide) ?_
          refine mm_sub C [2, 0, 3] rfl ?_
          exact w_X5_value_114 hd C (fun z0 z1 z2 z3 hK => ih z0 z1 z2 z3 hK) _ _ _ _ hK
def F_X5_value (a0 : Option Nat) (h : MH) : Option (Int32 × MH) := F_X5_value_5 mm_N a0 (6 : Int32) (0 : Int32) h
set_option maxRecDepth 20000 in
set_option maxHeartbeats 4000000 in
theorem S_X5_value {d : Nat} (hd : 2 ≤ d) {a0 : Option Nat} {h : MH} {r : Int32} {hz : MH} (hK : F_X5_value a0 h = some (r, hz)) : mm_M yX5_value cX5_value 4 (some .int) d [va_rf a0] h (.inr (some (.int r))) hz := by
  refine mm_ofV (by decide +kernel) (by simp [lg_sl, mm_crf, mm_cti, mm_ctl]) (fun V C => ?_)
  rw [show lv_args 0 [va_rf a0] = [(0, va_rf a0)] by simp [lv_args, mm_crf, mm_cti, mm_ctl]]
  unfold F_X5_value at hK
  refine mm_bipush C (pc := 0) (v := (6 : Int32)) dX5_value_0 (by decide) ?_
  refine mm_istore_n C (pc := 2) (i := 1) (lv' := [(1, .int (6 : Int32)), (0, va_rf a0)]) dX5_value_2 rfl (by decide) (by simp [mm_crf]) ?_
  refine mm_iconst C (pc := 3) (v := (0 : Int32)) dX5_value_3 (by decide) ?_
  refine mm_istore_n C (pc := 4) (i := 2) (lv' := [(2, .int (0 : Int32)), (1, .int (6 : Int32)), (0, va_rf a0)]) dX5_value_4 rfl (by decide) rfl ?_
  refine mm_sub C [2, 1, 0] rfl ?_
  exact w_X5_value_5 hd C _ _ _ _ _ hK
theorem wd_403 : Cond.methodLink RX8 3 Lib.objectInit ∈ lw_good := mm_wd 403 (by decide +kernel) (by decide +kernel)
theorem wd_783 : Cond.fieldLink RX8 9 "CrossedLines$Plan" "reach" "[I" ∈ lw_good := mm_wd 783 (by decide +kernel) (by decide +kernel)
theorem inGX8 : ∀ w ∈ u_ws RX8 TX8 7, w ∈ lw_good := mm_ws [788, 790, 792, 794, 796, 798, 800] (by decide +kernel) (by decide +kernel)
theorem wd_784 : Cond.fieldLink RX8 15 "CrossedLines$Plan" "liking" "[I" ∈ lw_good := mm_wd 784 (by decide +kernel) (by decide +kernel)
theorem wd_407 : Cond.code yX7_lines cX7_lines 1 (some .int) ∈ lw_good := mm_wd 407 (by decide +kernel) (by decide +kernel)
theorem wd_148 : Cond.initialized RX7 ∈ lw_good := mm_wd 148 (by decide +kernel) (by decide +kernel)
theorem tT_X7_lines : mm_T yX7_lines cX7_lines 1 (some .int) 0 := ⟨wd_407, wd_148, by decide +kernel, by decide +kernel, by decide +kernel, by decide +kernel⟩
theorem wd_404 : Cond.methodLink RX8 18 yX7_lines ∈ lw_good := mm_wd 404 (by decide +kernel) (by decide +kernel)
theorem wd_405 : Cond.instanceMethod yX7_lines ∈ lw_good := mm_wd 405 (by decide +kernel) (by decide +kernel)
theorem wd_406 : Cond.selects RX7 yX7_lines yX7_lines ∈ lw_good := mm_wd 406 (by decide +kernel) (by decide +kernel)
theorem wd_408 : Cond.methodLink RX8 24 yJ9_min_7cf53 ∈ lw_good := mm_wd 408 (by decide +kernel) (by decide +kernel)
theorem wd_411 : Cond.methodLink RX8 30 yJ9_max_7cf53 ∈ lw_good := mm_wd 411 (by decide +kernel) (by decide +kernel)
theorem wd_412 : Cond.static yJ9_max_7cf53 ∈ lw_good := mm_wd 412 (by decide +kernel) (by decide +kernel)
theorem wd_413 : Cond.code yJ9_max_7cf53 cJ9_max_7cf53 2 (some .int) ∈ lw_good := mm_wd 413 (by decide +kernel) (by decide +kernel)
theorem wd_773 : Cond.fieldLink RX8 33 "CrossedLines$Plan" "lines" "I" ∈ lw_good := mm_wd 773 (by decide +kernel) (by decide +kernel)
theorem wd_417 : Cond.code yX7_cords cX7_cords 1 (some .int) ∈ lw_good := mm_wd 417 (by decide +kernel) (by decide +kernel)
theorem tT_X7_cords : mm_T yX7_cords cX7_cords 1 (some .int) 0 := ⟨wd_417, wd_148, by decide +kernel, by decide +kernel, by decide +kernel, by decide +kernel⟩
theorem wd_414 : Cond.methodLink RX8 36 yX7_cords ∈ lw_good := mm_wd 414 (by decide +kernel) (by decide +kernel)
theorem wd_415 : Cond.instanceMethod yX7_cords ∈ lw_good := mm_wd 415 (by decide +kernel) (by decide +kernel)
theorem wd_416 : Cond.selects RX7 yX7_cords yX7_cords ∈ lw_good := mm_wd 416 (by decide +kernel) (by decide +kernel)
theorem wd_777 : Cond.fieldLink RX8 39 "CrossedLines$Plan" "cords" "I" ∈ lw_good := mm_wd 777 (by decide +kernel) (by decide +kernel)
theorem wd_421 : Cond.code yX7_textLines cX7_textLines 1 (some .int) ∈ lw_good := mm_wd 421 (by decide +kernel) (by decide +kernel)
theorem tT_X7_textLines : mm_T yX7_textLines cX7_textLines 1 (some .int) 0 := ⟨wd_421, wd_148, by decide +kernel, by decide +kernel, by decide +kernel, by decide +kernel⟩
theorem wd_418 : Cond.methodLink RX8 41 yX7_textLines ∈ lw_good := mm_wd 418 (by decide +kernel) (by decide +kernel)
theorem wd_419 : Cond.instanceMethod yX7_textLines ∈ lw_good := mm_wd 419 (by decide +kernel) (by decide +kernel)
theorem wd_420 : Cond.selects RX7 yX7_textLines yX7_textLines ∈ lw_good := mm_wd 420 (by decide +kernel) (by decide +kernel)
theorem wd_781 : Cond.fieldLink RX8 44 "CrossedLines$Plan" "textLines" "I" ∈ lw_good := mm_wd 781 (by decide +kernel) (by decide +kernel)
theorem wd_429 : Cond.code yX7_lawOf cX7_lawOf 4 (some (.object "CrossedLines$Law")) ∈ lw_good := mm_wd 429 (by decide +kernel) (by decide +kernel)
theorem tT_X7_lawOf : mm_T yX7_lawOf cX7_lawOf 4 (some (.object "CrossedLines$Law")) 1 := ⟨wd_429, wd_148, by decide +kernel, by decide +kernel, by decide +kernel, by decide +kernel⟩
theorem wd_426 : Cond.methodLink RX8 50 yX7_lawOf ∈ lw_good := mm_wd 426 (by decide +kernel) (by decide +kernel)
theorem wd_427 : Cond.instanceMethod yX7_lawOf ∈ lw_good := mm_wd 427 (by decide +kernel) (by decide +kernel)
theorem wd_428 : Cond.selects RX7 yX7_lawOf yX7_lawOf ∈ lw_good := mm_wd 428 (by decide +kernel) (by decide +kernel)
theorem wd_785 : Cond.fieldLink RX8 54 "CrossedLines$Plan" "slips" "LCrossedLines$Law;" ∈ lw_good := mm_wd 785 (by decide +kernel) (by decide +kernel)
theorem wd_787 : Cond.fieldLink RX8 58 "CrossedLines$Plan" "marries" "LCrossedLines$Law;" ∈ lw_good := mm_wd 787 (by decide +kernel) (by decide +kernel)
theorem wd_757 : Cond.code yX5_setVariables cX5_setVariables 5 none ∈ lw_good := mm_wd 757 (by decide +kernel) (by decide +kernel)
theorem tT_X5_setVariables : mm_T yX5_setVariables cX5_setVariables 5 none 4 := ⟨wd_757, wd_153, by decide +kernel, by decide +kernel, by decide +kernel, by decide +kernel⟩
theorem wd_754 : Cond.methodLink RX8 61 yX5_setVariables ∈ lw_good := mm_wd 754 (by decide +kernel) (by decide +kernel)
theorem wd_755 : Cond.instanceMethod yX5_setVariables ∈ lw_good := mm_wd 755 (by decide +kernel) (by decide +kernel)
theorem wd_756 : Cond.selects RX5 yX5_setVariables yX5_setVariables ∈ lw_good := mm_wd 756 (by decide +kernel) (by decide +kernel)
theorem wd_761 : Cond.code yX5_value cX5_value 4 (some .int) ∈ lw_good := mm_wd 761 (by decide +kernel) (by decide +kernel)
theorem tT_X5_value : mm_T yX5_value cX5_value 4 (some .int) 0 := ⟨wd_761, wd_153, by decide +kernel, by decide +kernel, by decide +kernel, by decide +kernel⟩
theorem wd_758 : Cond.methodLink RX8 67 yX5_value ∈ lw_good := mm_wd 758 (by decide +kernel) (by decide +kernel)
theorem wd_759 : Cond.instanceMethod yX5_value ∈ lw_good := mm_wd 759 (by decide +kernel) (by decide +kernel)
theorem wd_760 : Cond.selects RX5 yX5_value yX5_value ∈ lw_good := mm_wd 760 (by decide +kernel) (by decide +kernel)
theorem wd_425 : Cond.code yX7_reachOf cX7_reachOf 2 (some .int) ∈ lw_good := mm_wd 425 (by decide +kernel) (by decide +kernel)
theorem tT_X7_reachOf : mm_T yX7_reachOf cX7_reachOf 2 (some .int) 1 := ⟨wd_425, wd_148, by decide +kernel, by decide +kernel, by decide +kernel, by decide +kernel⟩
theorem wd_422 : Cond.methodLink RX8 46 yX7_reachOf ∈ lw_good := mm_wd 422 (by decide +kernel) (by decide +kernel)
theorem wd_423 : Cond.instanceMethod yX7_reachOf ∈ lw_good := mm_wd 423 (by decide +kernel) (by decide +kernel)
theorem wd_424 : Cond.selects RX7 yX7_reachOf yX7_reachOf ∈ lw_good := mm_wd 424 (by decide +kernel) (by decide +kernel)
def F_X8_init_174 (h : MH) : Option MH := some h
set_option maxRecDepth 20000 in
set_option maxHeartbeats 4000000 in
theorem w_X8_init_174 {d : Nat} {V : Nat → List (Nat × Value) → List Value → MH → Prop} {hz : MH} (hd : 5 ≤ d) (C : mm_C d yX8_init cX8_init 5 none (.inr none) hz V) (h : MH) (hK : F_X8_init_174  h = some hz) : V 174 [] [] h := by
  unfold F_X8_init_174 at hK
  cases hK
  exact mm_vret C (pc := 174) rfl dX8_init_174 rfl rfl
def F_X8_init_128 (k113 : Option Nat → Option Nat → Int32 → MH → Option MH) : Nat → Option Nat → Option Nat → Int32 → Int32 → MH → Option MH
  | 0 => fun _ _ _ _ _ => none
  | n + 1 => fun l0 l2 l3 l4 h => (gI h l0 8 0).bind fun v131 => if v131 ≤ l4 then (k113 l0 l2 (l3 + (1 : Int32)) h) else ((cV h l2 5 (F_X5_setVariables l2 l3 l4 (0 : Int32) (0 : Int32) h)).bind fun h143 => (gR h143 l0 8 4).bind fun v147 => mm_b2 (cV h143 l2 5 (F_X5_value l2 h143)) fun v158 h158 => (sI h158 v147 0 ((l3 * (8 : Int32)) + l4) v158).bind fun h161 => F_X8_init_128 k113 n l0 l2 l3 (l4 + (1 : Int32)) h161)
set_option maxRecDepth 20000 in
set_option maxHeartbeats 4000000 in
theorem w_X8_init_128 {d : Nat} {V : Nat → List (Nat × Value) → List Value → MH → Prop} {hz : MH} {k113 : Option Nat → Option Nat → Int32 → MH → Option MH} (hd : 5 ≤ d) (C : mm_C d yX8_init cX8_init 5 none (.inr none) hz V) (q113 : ∀ (x0 : Option Nat) (x1 : Option Nat) (x2 : Int32) (h : MH), k113 x0 x1 x2 h = some hz → V 113 [(0, va_rf x0), (2, va_rf x1), (3, .int x2)] [] h) : ∀ (n : Nat) (l0 : Option Nat) (l2 : Option Nat) (l3 : Int32) (l4 : Int32) (h : MH), F_X8_init_128 k113 n l0 l2 l3 l4 h = some hz → V 128 [(0, va_rf l0), (2, va_rf l2), (3, .int l3), (4, .int l4)] [] h := by
  intro n
  induction n with
  | zero => intro l0 l2 l3 l4 h hK; cases hK
  | succ n ih =>
    intro l0 l2 l3 l4 h hK
    replace hK : ((gI h l0 8 0).bind fun v131 => if v131 ≤ l4 then (k113 l0 l2 (l3 + (1 : Int32)) h) else ((cV h l2 5 (F_X5_setVariables l2 l3 l4 (0 : Int32) (0 : Int32) h)).bind fun h143 => (gR h143 l0 8 4).bind fun v147 => mm_b2 (cV h143 l2 5 (F_X5_value l2 h143)) fun v158 h158 => (sI h158 v147 0 ((l3 * (8 : Int32)) + l4) v158).bind fun h161 => F_X8_init_128 k113 n l0 l2 l3 (l4 + (1 : Int32)) h161)) = some hz := hK
    refine mm_iload C (pc := 128) 3 dX8_init_128 rfl ?_
    refine mm_aload_n C (pc := 130) 0 dX8_init_130 rfl ?_
    replace hK := mm_bd hK; obtain ⟨v131, e131, hK⟩ := hK
    refine mm_geti C (pc := 131) (k := 0) inGX8 rfl (by decide) wd_773 dX8_init_131 e131 ?_
    refine mm_icmp_ge C (pc := 134) (tgt := 168) dX8_init_134 (by decide) (fun hc => ?_) (fun hc => ?_)
    · replace hK := mm_ip hc hK
      refine mm_iinc C (pc := 168) (v := (l3 + (1 : Int32))) (lv' := [(3, .int (l3 + (1 : Int32))), (0, va_rf l0), (2, va_rf l2), (4, .int l4)]) 2 dX8_init_168 rfl rfl (by decide) (by simp [mm_crf]) ?_
      refine mm_goto C (pc := 171) (tgt := 113) dX8_init_171 (by decide) ?_
      refine mm_sub C [1, 2, 0] rfl ?_
      exact q113 _ _ _ _ hK
    · replace hK := mm_in hc hK
      refine mm_aload_n C (pc := 137) 1 dX8_init_137 rfl ?_
      refine mm_iload_n C (pc := 138) 2 dX8_init_138 rfl ?_
      refine mm_iload C (pc := 139) 3 dX8_init_139 rfl ?_
      refine mm_iconst C (pc := 141) (v := (0 : Int32)) dX8_init_141 (by decide) ?_
      refine mm_iconst C (pc := 142) (v := (0 : Int32)) dX8_init_142 (by decide) ?_
      replace hK := mm_bd hK; obtain ⟨h143, e143, hK⟩ := hK
      obtain ⟨o143, e143⟩ := cV_some e143
      refine mm_callV C (pc := 143) (d1 := 1) (As := [.int l3, .int l4, .int (0 : Int32), .int (0 : Int32)]) (st := []) (vk := none) ((S_X5_setVariables (by omega)) e143) tT_X5_setVariables o143 (Or.inr ⟨_, rfl, rfl⟩) wd_754 wd_755 wd_756 (by omega) (by decide) rfl (by simp [mm_crf, mm_cti, mm_ctl]) rfl dX8_init_143 ?_
      show V _ _ [] _
      refine mm_aload_n C (pc := 146) 0 dX8_init_146 rfl ?_
      replace hK := mm_bd hK; obtain ⟨v147, e147, hK⟩ := hK
      refine mm_getr C (pc := 147) (k := 4) inGX8 rfl (by decide) wd_784 dX8_init_147 e147 ?_
      refine mm_iload_n C (pc := 150) 2 dX8_init_150 rfl ?_
      refine mm_bipush C (pc := 151) (v := (8 : Int32)) dX8_init_151 (by decide) ?_
      refine mm_imul C (pc := 153) dX8_init_153 ?_
      refine mm_iload C (pc := 154) 3 dX8_init_154 rfl ?_
      refine mm_iadd C (pc := 156) dX8_init_156 ?_
      refine mm_aload_n C (pc := 157) 1 dX8_init_157 rfl ?_
      replace hK := mm_b2s hK; obtain ⟨v158, h158, e158, hK⟩ := hK
      obtain ⟨o158, e158⟩ := cV_some e158
      refine mm_callV C (pc := 158) (d1 := 2) (As := []) (st := [.int ((l3 * (8 : Int32)) + l4), va_rf v147]) (vk := (some (.int v158))) ((S_X5_value (by omega)) e158) tT_X5_value o158 (Or.inr ⟨_, rfl, rfl⟩) wd_758 wd_759 wd_760 (by omega) (by decide) rfl (by simp [mm_crf, mm_cti, mm_ctl]) rfl dX8_init_158 ?_
      show V _ _ (.int v158 :: _) _
      replace hK := mm_bd hK; obtain ⟨h161, e161, hK⟩ := hK
      refine mm_iast C (pc := 161) dX8_init_161 e161 ?_
      refine mm_iinc C (pc := 162) (v := (l4 + (1 : Int32))) (lv' := [(4, .int (l4 + (1 : Int32))), (0, va_rf l0), (2, va_rf l2), (3, .int l3)]) 3 dX8_init_162 rfl rfl (by decide) rfl ?_
      refine mm_goto C (pc := 165) (tgt := 128) dX8_init_165 (by decide) ?_
      refine mm_sub C [1, 2, 3, 0] rfl ?_
      exact ih _ _ _ _ _ hK
def F_X8_init_113 : Nat → Option Nat → Option Nat → Int32 → MH → Option MH
  | 0 => fun _ _ _ _ => none
  | n + 1 => fun l0 l2 l3 h => if l2 = none then (F_X8_init_174 h) else ((gI h l0 8 0).bind fun v119 => if v119 ≤ l3 then (F_X8_init_174 h) else (F_X8_init_128 (F_X8_init_113 n) mm_N l0 l2 l3 (0 : Int32) h))
set_option maxRecDepth 20000 in
set_option maxHeartbeats 4000000 in
theorem w_X8_init_113 {d : Nat} {V : Nat → List (Nat × Value) → List Value → MH → Prop} {hz : MH} (hd : 5 ≤ d) (C : mm_C d yX8_init cX8_init 5 none (.inr none) hz V) : ∀ (n : Nat) (l0 : Option Nat) (l2 : Option Nat) (l3 : Int32) (h : MH), F_X8_init_113 n l0 l2 l3 h = some hz → V 113 [(0, va_rf l0), (2, va_rf l2), (3, .int l3)] [] h := by
  intro n
  induction n with
  | zero => intro l0 l2 l3 h hK; cases hK
  | succ n ih =>
    intro l0 l2 l3 h hK
    replace hK : (if l2 = none then (F_X8_init_174 h) else ((gI h l0 8 0).bind fun v119 => if v119 ≤ l3 then (F_X8_init_174 h) else (F_X8_init_128 (F_X8_init_113 n) mm_N l0 l2 l3 (0 : Int32) h))) = some hz := hK
    refine mm_aload_n C (pc := 113) 1 dX8_init_113 rfl ?_
    refine mm_ifnull C (pc := 114) (tgt := 174) dX8_init_114 (by decide) (fun hc => ?_) (fun hc => ?_)
    · replace hK := mm_ip hc hK
      refine mm_sub C [] rfl ?_
      exact w_X8_init_174 hd C _ hK
    · replace hK := mm_in hc hK
      refine mm_iload_n C (pc := 117) 2 dX8_init_117 rfl ?_
      refine mm_aload_n C (pc := 118) 0 dX8_init_118 rfl ?_
      replace hK := mm_bd hK; obtain ⟨v119, e119, hK⟩ := hK
      refine mm_geti C (pc := 119) (k := 0) inGX8 rfl (by decide) wd_773 dX8_init_119 e119 ?_
      refine mm_icmp_ge C (pc := 122) (tgt := 174) dX8_init_122 (by decide) (fun hc => ?_) (fun hc => ?_)
      · replace hK := mm_ip hc hK
        refine mm_sub C [] rfl ?_
        exact w_X8_init_174 hd C _ hK
      · replace hK := mm_in hc hK
        refine mm_iconst C (pc := 125) (v := (0 : Int32)) dX8_init_125 (by decide) ?_
        refine mm_istore C (pc := 126) (i := 4) (lv' := [(4, .int (0 : Int32)), (0, va_rf l0), (2, va_rf l2), (3, .int l3)]) dX8_init_126 (by decide) rfl ?_
        refine mm_sub C [1, 2, 3, 0] rfl ?_
        exact w_X8_init_128 hd C (fun z0 z1 z2 z3 hK => ih z0 z1 z2 z3 hK) _ _ _ _ _ _ hK
def F_X8_init_62 : Nat → Option Nat → Option Nat → Int32 → MH → Option MH
  | 0 => fun _ _ _ _ => none
  | n + 1 => fun l0 l1 l2 h => (gI h l0 8 1).bind fun v64 => if v64 ≤ l2 then (mm_b2 (cV h l1 7 (F_X7_lawOf l1 (0 : Int32) h)) fun v90 h90 => (pR h90 l0 8 5 v90).bind fun h93 => mm_b2 (cV h93 l1 7 (F_X7_lawOf l1 (2 : Int32) h93)) fun v99 h99 => (pR h99 l0 8 6 v99).bind fun h102 => mm_b2 (cV h102 l1 7 (F_X7_lawOf l1 (1 : Int32) h102)) fun v107 h107 => F_X8_init_113 mm_N l0 v107 (0 : Int32) h107) else ((gR h l0 8 3).bind fun v71 => mm_b2 (cV h l1 7 (F_X7_reachOf l1 l2 h)) fun v77 h77 => (sI h77 v71 0 l2 v77).bind fun h80 => F_X8_init_62 n l0 l1 (l2 + (1 : Int32)) h80)
set_option maxRecDepth 20000 in
set_option maxHeartbeats 4000000 in
theorem w_X8_init_62 {d : Nat} {V : Nat → List (Nat × Value) → List Value → MH → Prop} {hz : MH} (hd : 5 ≤ d) (C : mm_C d yX8_init cX8_init 5 none (.inr none) hz V) : ∀ (n : Nat) (l0 : Option Nat) (l1 : Option Nat) (l2 : Int32) (h : MH), F_X8_init_62 n l0 l1 l2 h = some hz → V 62 [(0, va_rf l0), (1, va_rf l1), (2, .int l2)] [] h := by
  intro n
  induction n with
  | zero => intro l0 l1 l2 h hK; cases hK
  | succ n ih =>
    intro l0 l1 l2 h hK
    replace hK : ((gI h l0 8 1).bind fun v64 => if v64 ≤ l2 then (mm_b2 (cV h l1 7 (F_X7_lawOf l1 (0 : Int32) h)) fun v90 h90 => (pR h90 l0 8 5 v90).bind fun h93 => mm_b2 (cV h93 l1 7 (F_X7_lawOf l1 (2 : Int32) h93)) fun v99 h99 => (pR h99 l0 8 6 v99).bind fun h102 => mm_b2 (cV h102 l1 7 (F_X7_lawOf l1 (1 : Int32) h102)) fun v107 h107 => F_X8_init_113 mm_N l0 v107 (0 : Int32) h107) else ((gR h l0 8 3).bind fun v71 => mm_b2 (cV h l1 7 (F_X7_reachOf l1 l2 h)) fun v77 h77 => (sI h77 v71 0 l2 v77).bind fun h80 => F_X8_init_62 n l0 l1 (l2 + (1 : Int32)) h80)) = some hz := hK
    refine mm_iload_n C (pc := 62) 2 dX8_init_62 rfl ?_
    refine mm_aload_n C (pc := 63) 0 dX8_init_63 rfl ?_
    replace hK := mm_bd hK; obtain ⟨v64, e64, hK⟩ := hK
    refine mm_geti C (pc := 64) (k := 1) inGX8 rfl (by decide) wd_777 dX8_init_64 e64 ?_
    refine mm_icmp_ge C (pc := 67) (tgt := 87) dX8_init_67 (by decide) (fun hc => ?_) (fun hc => ?_)
    · replace hK := mm_ip hc hK
      refine mm_aload_n C (pc := 87) 0 dX8_init_87 rfl ?_
      refine mm_aload_n C (pc := 88) 1 dX8_init_88 rfl ?_
      refine mm_iconst C (pc := 89) (v := (0 : Int32)) dX8_init_89 (by decide) ?_
      replace hK := mm_b2s hK; obtain ⟨v90, h90, e90, hK⟩ := hK
      obtain ⟨o90, e90⟩ := cV_some e90
      refine mm_callV C (pc := 90) (d1 := 4) (As := [.int (0 : Int32)]) (st := [va_rf l0]) (vk := (some (va_rf v90))) ((S_X7_lawOf (by omega)) e90) tT_X7_lawOf o90 (Or.inr ⟨_, rfl, rfl⟩) wd_426 wd_427 wd_428 (by omega) (by decide) rfl (by simp [mm_crf, mm_cti, mm_ctl]) rfl dX8_init_90 ?_
      show V _ _ (va_rf v90 :: _) _
      replace hK := mm_bd hK; obtain ⟨h93, e93, hK⟩ := hK
      refine mm_putr C (pc := 93) (k := 5) true (fun _ => ⟨rfl, rfl⟩) inGX8 tyX8 tyX8_ok nmX8 rfl (by decide) wd_785 rfl rfl dX8_init_93 e93 ?_
      refine mm_aload_n C (pc := 96) 0 dX8_init_96 rfl ?_
      refine mm_aload_n C (pc := 97) 1 dX8_init_97 rfl ?_
      refine mm_iconst C (pc := 98) (v := (2 : Int32)) dX8_init_98 (by decide) ?_
      replace hK := mm_b2s hK; obtain ⟨v99, h99, e99, hK⟩ := hK
      obtain ⟨o99, e99⟩ := cV_some e99
      refine mm_callV C (pc := 99) (d1 := 4) (As := [.int (2 : Int32)]) (st := [va_rf l0]) (vk := (some (va_rf v99))) ((S_X7_lawOf (by omega)) e99) tT_X7_lawOf o99 (Or.inr ⟨_, rfl, rfl⟩) wd_426 wd_427 wd_428 (by omega) (by decide) rfl (by simp [mm_crf, mm_cti, mm_ctl]) rfl dX8_init_99 ?_
      show V _ _ (va_rf v99 :: _) _
      replace hK := mm_bd hK; obtain ⟨h102, e102, hK⟩ := hK
      refine mm_putr C (pc := 102) (k := 6) true (fun _ => ⟨rfl, rfl⟩) inGX8 tyX8 tyX8_ok nmX8 rfl (by decide) wd_787 rfl rfl dX8_init_102 e102 ?_
      refine mm_aload_n C (pc := 105) 1 dX8_init_105 rfl ?_
      refine mm_iconst C (pc := 106) (v := (1 : Int32)) dX8_init_106 (by decide) ?_
      replace hK := mm_b2s hK; obtain ⟨v107, h107, e107, hK⟩ := hK
      obtain ⟨o107, e107⟩ := cV_some e107
      refine mm_callV C (pc := 107) (d1 := 4) (As := [.int (1 : Int32)]) (st := []) (vk := (some (va_rf v107))) ((S_X7_lawOf (by omega)) e107) tT_X7_lawOf o107 (Or.inr ⟨_, rfl, rfl⟩) wd_426 wd_427 wd_428 (by omega) (by decide) rfl (by simp [mm_crf, mm_cti, mm_ctl]) rfl dX8_init_107 ?_
      show V _ _ (va_rf v107 :: _) _
      refine mm_astore_n C (pc := 110) (i := 2) (lv' := [(2, va_rf v107), (0, va_rf l0), (1, va_rf l1)]) dX8_init_110 rfl (by decide) (by simp [mm_crf]) ?_
      refine mm_iconst C (pc := 111) (v := (0 : Int32)) dX8_init_111 (by decide) ?_
      refine mm_istore_n C (pc := 112) (i := 3) (lv' := [(3, .int (0 : Int32)), (2, va_rf v107), (0, va_rf l0), (1, va_rf l1)]) dX8_init_112 rfl (by decide) (by simp [mm_crf]) ?_
      refine mm_sub C [2, 1, 0] rfl ?_
      exact w_X8_init_113 hd C _ _ _ _ _ hK
    · replace hK := mm_in hc hK
      refine mm_aload_n C (pc := 70) 0 dX8_init_70 rfl ?_
      replace hK := mm_bd hK; obtain ⟨v71, e71, hK⟩ := hK
      refine mm_getr C (pc := 71) (k := 3) inGX8 rfl (by decide) wd_783 dX8_init_71 e71 ?_
      refine mm_iload_n C (pc := 74) 2 dX8_init_74 rfl ?_
      refine mm_aload_n C (pc := 75) 1 dX8_init_75 rfl ?_
      refine mm_iload_n C (pc := 76) 2 dX8_init_76 rfl ?_
      replace hK := mm_b2s hK; obtain ⟨v77, h77, e77, hK⟩ := hK
      obtain ⟨o77, e77⟩ := cV_some e77
      refine mm_callV C (pc := 77) (d1 := 1) (As := [.int l2]) (st := [.int l2, va_rf v71]) (vk := (some (.int v77))) ((S_X7_reachOf (by omega)) e77) tT_X7_reachOf o77 (Or.inr ⟨_, rfl, rfl⟩) wd_422 wd_423 wd_424 (by omega) (by decide) rfl (by simp [mm_crf, mm_cti, mm_ctl]) rfl dX8_init_77 ?_
      show V _ _ (.int v77 :: _) _
      replace hK := mm_bd hK; obtain ⟨h80, e80, hK⟩ := hK
      refine mm_iast C (pc := 80) dX8_init_80 e80 ?_
      refine mm_iinc C (pc := 81) (v := (l2 + (1 : Int32))) (lv' := [(2, .int (l2 + (1 : Int32))), (0, va_rf l0), (1, va_rf l1)]) 2 dX8_init_81 rfl rfl (by decide) (by simp [mm_crf]) ?_
      refine mm_goto C (pc := 84) (tgt := 62) dX8_init_84 (by decide) ?_
      refine mm_sub C [1, 2, 0] rfl ?_
      exact ih _ _ _ _ hK
def F_X8_init (a0 : Option Nat) (a1 : Option Nat) (h : MH) : Option MH := a0.bind fun b1 => mm_b2 (nI_ h 0 (3 : Int32)) fun v6 h6 => (pR h6 (some b1) 8 3 v6).bind fun h8 => mm_b2 (nI_ h8 0 (64 : Int32)) fun v14 h14 => (pR h14 (some b1) 8 4 v14).bind fun h16 => mm_b2 (cV h16 a1 7 (F_X7_lines a1 h16)) fun v24 h24 => (pI h24 (some b1) 8 0 (mxI (2 : Int32) (mnI (8 : Int32) v24))).bind fun h33 => mm_b2 (cV h33 a1 7 (F_X7_cords a1 h33)) fun v40 h40 => (pI h40 (some b1) 8 1 (mxI (0 : Int32) (mnI (3 : Int32) v40))).bind fun h49 => mm_b2 (cV h49 a1 7 (F_X7_textLines a1 h49)) fun v54 h54 => (pI h54 (some b1) 8 2 v54).bind fun h57 => F_X8_init_62 mm_N (some b1) a1 (0 : Int32) h57
set_option maxRecDepth 20000 in
set_option maxHeartbeats 4000000 in
theorem S_X8_init {d : Nat} (hd : 5 ≤ d) {a0 : Option Nat} {a1 : Option Nat} {h : MH} {hz : MH} (hK : F_X8_init a0 a1 h = some hz) : mm_M yX8_init cX8_init 5 none d [va_rf a0, va_rf a1] h (.inr none) hz := by
  refine mm_ofV (by decide +kernel) (by simp [lg_sl, mm_crf, mm_cti, mm_ctl]) (fun V C => ?_)
  rw [show lv_args 0 [va_rf a0, va_rf a1] = [(0, va_rf a0), (1, va_rf a1)] by simp [lv_args, mm_crf, mm_cti, mm_ctl]]
  unfold F_X8_init at hK
  refine mm_aload_n C (pc := 0) 0 dX8_init_0 rfl ?_
  replace hK := mm_bd hK; obtain ⟨b1, e1, hK⟩ := hK
  subst e1
  refine mm_objInit C (pc := 1) wd_403 wd_181 wd_182 (by omega) (by simp [mm_crf, mm_cti, mm_ctl]) dX8_init_1 ?_
  refine mm_aload_n C (pc := 4) 0 dX8_init_4 rfl ?_
  refine mm_iconst C (pc := 5) (v := (3 : Int32)) dX8_init_5 (by decide) ?_
  replace hK := mm_b2s hK; obtain ⟨v6, h6, e6, hK⟩ := hK
  refine mm_newI C (pc := 6) wd_200 dX8_init_6 e6 ?_
  replace hK := mm_bd hK; obtain ⟨h8, e8, hK⟩ := hK
  refine mm_putr C (pc := 8) (k := 3) true (fun _ => ⟨rfl, rfl⟩) inGX8 tyX8 tyX8_ok nmX8 rfl (by decide) wd_783 rfl rfl dX8_init_8 e8 ?_
  refine mm_aload_n C (pc := 11) 0 dX8_init_11 rfl ?_
  refine mm_bipush C (pc := 12) (v := (64 : Int32)) dX8_init_12 (by decide) ?_
  replace hK := mm_b2s hK; obtain ⟨v14, h14, e14, hK⟩ := hK
  refine mm_newI C (pc := 14) wd_200 dX8_init_14 e14 ?_
  replace hK := mm_bd hK; obtain ⟨h16, e16, hK⟩ := hK
  refine mm_putr C (pc := 16) (k := 4) true (fun _ => ⟨rfl, rfl⟩) inGX8 tyX8 tyX8_ok nmX8 rfl (by decide) wd_784 rfl rfl dX8_init_16 e16 ?_
  refine mm_aload_n C (pc := 19) 0 dX8_init_19 rfl ?_
  refine mm_iconst C (pc := 20) (v := (2 : Int32)) dX8_init_20 (by decide) ?_
  refine mm_bipush C (pc := 21) (v := (8 : Int32)) dX8_init_21 (by decide) ?_
  refine mm_aload_n C (pc := 23) 1 dX8_init_23 rfl ?_
  replace hK := mm_b2s hK; obtain ⟨v24, h24, e24, hK⟩ := hK
  obtain ⟨o24, e24⟩ := cV_some e24
  refine mm_callV C (pc := 24) (d1 := 1) (As := []) (st := [.int (8 : Int32), .int (2 : Int32), va_rf (some b1)]) (vk := (some (.int v24))) ((S_X7_lines (by omega)) e24) tT_X7_lines o24 (Or.inr ⟨_, rfl, rfl⟩) wd_404 wd_405 wd_406 (by omega) (by decide) rfl (by simp [mm_crf, mm_cti, mm_ctl]) rfl dX8_init_24 ?_
  show V _ _ (.int v24 :: _) _
  refine mm_mmin C (pc := 27) wd_408 wd_409 wd_152 wd_410 (by omega) (by simp [mm_crf, mm_cti, mm_ctl]) dX8_init_27 ?_
  refine mm_mmax C (pc := 30) wd_411 wd_412 wd_152 wd_413 (by omega) (by simp [mm_crf, mm_cti, mm_ctl]) dX8_init_30 ?_
  replace hK := mm_bd hK; obtain ⟨h33, e33, hK⟩ := hK
  refine mm_puti C (pc := 33) (k := 0) true (fun _ => ⟨rfl, rfl⟩) inGX8 tyX8 tyX8_ok nmX8 rfl (by decide) wd_773 rfl rfl dX8_init_33 e33 ?_
  refine mm_aload_n C (pc := 36) 0 dX8_init_36 rfl ?_
  refine mm_iconst C (pc := 37) (v := (0 : Int32)) dX8_init_37 (by decide) ?_
  refine mm_iconst C (pc := 38) (v := (3 : Int32)) dX8_init_38 (by decide) ?_
  refine mm_aload_n C (pc := 39) 1 dX8_init_39 rfl ?_
  replace hK := mm_b2s hK; obtain ⟨v40, h40, e40, hK⟩ := hK
  obtain ⟨o40, e40⟩ := cV_some e40
  refine mm_callV C (pc := 40) (d1 := 1) (As := []) (st := [.int (3 : Int32), .int (0 : Int32), va_rf (some b1)]) (vk := (some (.int v40))) ((S_X7_cords (by omega)) e40) tT_X7_cords o40 (Or.inr ⟨_, rfl, rfl⟩) wd_414 wd_415 wd_416 (by omega) (by decide) rfl (by simp [mm_crf, mm_cti, mm_ctl]) rfl dX8_init_40 ?_
  show V _ _ (.int v40 :: _) _
  refine mm_mmin C (pc := 43) wd_408 wd_409 wd_152 wd_410 (by omega) (by simp [mm_crf, mm_cti, mm_ctl]) dX8_init_43 ?_
  refine mm_mmax C (pc := 46) wd_411 wd_412 wd_152 wd_413 (by omega) (by simp [mm_crf, mm_cti, mm_ctl]) dX8_init_46 ?_
  replace hK := mm_bd hK; obtain ⟨h49, e49, hK⟩ := hK
  refine mm_puti C (pc := 49) (k := 1) true (fun _ => ⟨rfl, rfl⟩) inGX8 tyX8 tyX8_ok nmX8 rfl (by decide) wd_777 rfl rfl dX8_init_49 e49 ?_
  refine mm_aload_n C (pc := 52) 0 dX8_init_52 rfl ?_
  refine mm_aload_n C (pc := 53) 1 dX8_init_53 rfl ?_
  replace hK := mm_b2s hK; obtain ⟨v54, h54, e54, hK⟩ := hK
  obtain ⟨o54, e54⟩ := cV_some e54
  refine mm_callV C (pc := 54) (d1 := 1) (As := []) (st := [va_rf (some b1)]) (vk := (some (.int v54))) ((S_X7_textLines (by omega)) e54) tT_X7_textLines o54 (Or.inr ⟨_, rfl, rfl⟩) wd_418 wd_419 wd_420 (by omega) (by decide) rfl (by simp [mm_crf, mm_cti, mm_ctl]) rfl dX8_init_54 ?_
  show V _ _ (.int v54 :: _) _
  replace hK := mm_bd hK; obtain ⟨h57, e57, hK⟩ := hK
  refine mm_puti C (pc := 57) (k := 2) true (fun _ => ⟨rfl, rfl⟩) inGX8 tyX8 tyX8_ok nmX8 rfl (by decide) wd_781 rfl rfl dX8_init_57 e57 ?_
  refine mm_iconst C (pc := 60) (v := (0 : Int32)) dX8_init_60 (by decide) ?_
  refine mm_istore_n C (pc := 61) (i := 2) (lv' := [(2, .int (0 : Int32)), (0, va_rf (some b1)), (1, va_rf a1)]) dX8_init_61 rfl (by decide) (by simp [mm_crf]) ?_
  refine mm_sub C [1, 2, 0] rfl ?_
  exact w_X8_init_62 hd C _ _ _ _ _ hK
theorem dJ7_fill_53178_0 : decode cJ7_fill_53178 0 = .ok (.iconst 0, 1) := by decide +kernel
theorem dJ7_fill_53178_1 : decode cJ7_fill_53178 1 = .ok (.istore_n 2, 1) := by decide +kernel
theorem dJ7_fill_53178_2 : decode cJ7_fill_53178 2 = .ok (.aload_n 0, 1) := by decide +kernel
theorem dJ7_fill_53178_3 : decode cJ7_fill_53178 3 = .ok (.arraylength, 1) := by decide +kernel
theorem dJ7_fill_53178_4 : decode cJ7_fill_53178 4 = .ok (.istore_n 3, 1) := by decide +kernel
theorem dJ7_fill_53178_5 : decode cJ7_fill_53178 5 = .ok (.iload_n 2, 1) := by decide +kernel
theorem dJ7_fill_53178_6 : decode cJ7_fill_53178 6 = .ok (.iload_n 3, 1) := by decide +kernel
theorem dJ7_fill_53178_7 : decode cJ7_fill_53178 7 = .ok (.if_icmp .ge 13, 3) := by decide +kernel
theorem dJ7_fill_53178_10 : decode cJ7_fill_53178 10 = .ok (.aload_n 0, 1) := by decide +kernel
theorem dJ7_fill_53178_11 : decode cJ7_fill_53178 11 = .ok (.iload_n 2, 1) := by decide +kernel
theorem dJ7_fill_53178_12 : decode cJ7_fill_53178 12 = .ok (.iload_n 1, 1) := by decide +kernel
theorem dJ7_fill_53178_13 : decode cJ7_fill_53178 13 = .ok (.iastore, 1) := by decide +kernel
theorem dJ7_fill_53178_14 : decode cJ7_fill_53178 14 = .ok (.iinc 2 1, 3) := by decide +kernel
theorem dJ7_fill_53178_17 : decode cJ7_fill_53178 17 = .ok (.goto (-12), 3) := by decide +kernel
theorem dJ7_fill_53178_20 : decode cJ7_fill_53178 20 = .ok (.return_, 1) := by decide +kernel
def F_J7_fill_53178_5 : Nat → Option Nat → Int32 → Int32 → Int32 → MH → Option MH
  | 0 => fun _ _ _ _ _ => none
  | n + 1 => fun l0 l1 l2 l3 h => if l3 ≤ l2 then (some h) else ((sI h l0 0 l2 l1).bind fun h13 => F_J7_fill_53178_5 n l0 l1 (l2 + (1 : Int32)) l3 h13)
set_option maxRecDepth 20000 in
set_option maxHeartbeats 4000000 in
theorem w_J7_fill_53178_5 {d : Nat} {V : Nat → List (Nat × Value) → List Value → MH → Prop} {hz : MH} (hd : 1 ≤ d) (C : mm_C d yJ7_fill_53178 cJ7_fill_53178 4 none (.inr none) hz V) : ∀ (n : Nat) (l0 : Option Nat) (l1 : Int32) (l2 : Int32) (l3 : Int32) (h : MH), F_J7_fill_53178_5 n l0 l1 l2 l3 h = some hz → V 5 [(0, va_rf l0), (1, .int l1), (2, .int l2), (3, .int l3)] [] h := by
  intro n
  induction n with
  | zero => intro l0 l1 l2 l3 h hK; cases hK
  | succ n ih =>
    intro l0 l1 l2 l3 h hK
    replace hK : (if l3 ≤ l2 then (some h) else ((sI h l0 0 l2 l1).bind fun h13 => F_J7_fill_53178_5 n l0 l1 (l2 + (1 : Int32)) l3 h13)) = some hz := hK
    refine mm_iload_n C (pc := 5) 2 dJ7_fill_53178_5 rfl ?_
    refine mm_iload_n C (pc := 6) 3 dJ7_fill_53178_6 rfl ?_
    refine mm_icmp_ge C (pc := 7) (tgt := 20) dJ7_fill_53178_7 (by decide) (fun hc => ?_) (fun hc => ?_)
    · replace hK := mm_ip hc hK
      cases hK
      exact mm_vret C (pc := 20) rfl dJ7_fill_53178_20 rfl rfl
    · replace hK := mm_in hc hK
      refine mm_aload_n C (pc := 10) 0 dJ7_fill_53178_10 rfl ?_
      refine mm_iload_n C (pc := 11) 2 dJ7_fill_53178_11 rfl ?_
      refine mm_iload_n C (pc := 12) 1 dJ7_fill_53178_12 rfl ?_
      replace hK := mm_bd hK; obtain ⟨h13, e13, hK⟩ := hK
      refine mm_iast C (pc := 13) dJ7_fill_53178_13 e13 ?_
      refine mm_iinc C (pc := 14) (v := (l2 + (1 : Int32))) (lv' := [(2, .int (l2 + (1 : Int32))), (0, va_rf l0), (1, .int l1), (3, .int l3)]) 2 dJ7_fill_53178_14 rfl rfl (by decide) rfl ?_
      refine mm_goto C (pc := 17) (tgt := 5) dJ7_fill_53178_17 (by decide) ?_
      refine mm_sub C [1, 2, 0, 3] rfl ?_
      exact ih _ _ _ _ _ hK
def F_J7_fill_53178 (a0 : Option Nat) (a1 : Int32) (h : MH) : Option MH := (aNt h a0 0).bind fun v3 => F_J7_fill_53178_5 mm_N a0 a1 (0 : Int32) v3 h
set_option maxRecDepth 20000 in
set_option maxHeartbeats 4000000 in
theorem S_J7_fill_53178 {d : Nat} (hd : 1 ≤ d) {a0 : Option Nat} {a1 : Int32} {h : MH} {hz : MH} (hK : F_J7_fill_53178 a0 a1 h = some hz) : mm_M yJ7_fill_53178 cJ7_fill_53178 4 none d [va_rf a0, .int a1] h (.inr none) hz := by
  refine mm_ofV (by decide +kernel) (by simp [lg_sl, mm_crf, mm_cti, mm_ctl]) (fun V C => ?_)
  rw [show lv_args 0 [va_rf a0, .int a1] = [(0, va_rf a0), (1, .int a1)] by simp [lv_args, mm_crf, mm_cti, mm_ctl]]
  unfold F_J7_fill_53178 at hK
  refine mm_iconst C (pc := 0) (v := (0 : Int32)) dJ7_fill_53178_0 (by decide) ?_
  refine mm_istore_n C (pc := 1) (i := 2) (lv' := [(2, .int (0 : Int32)), (0, va_rf a0), (1, .int a1)]) dJ7_fill_53178_1 rfl (by decide) rfl ?_
  refine mm_aload_n C (pc := 2) 1 dJ7_fill_53178_2 rfl ?_
  replace hK := mm_bd hK; obtain ⟨v3, e3, hK⟩ := hK
  refine mm_alenI C (pc := 3) dJ7_fill_53178_3 e3 ?_
  refine mm_istore_n C (pc := 4) (i := 3) (lv' := [(3, .int v3), (2, .int (0 : Int32)), (0, va_rf a0), (1, .int a1)]) dJ7_fill_53178_4 rfl (by decide) rfl ?_
  refine mm_sub C [2, 3, 1, 0] rfl ?_
  exact w_J7_fill_53178_5 hd C _ _ _ _ _ _ hK
theorem wd_816 : Cond.fieldLink RX0 11 "CrossedLines$Board" "cells" "[I" ∈ lw_good := mm_wd 816 (by decide +kernel) (by decide +kernel)
theorem inGX0 : ∀ w ∈ u_ws RX0 TX0 3, w ∈ lw_good := mm_ws [822, 824, 826] (by decide +kernel) (by decide +kernel)
theorem wd_815 : Cond.code yJ7_fill_53178 cJ7_fill_53178 4 none ∈ lw_good := mm_wd 815 (by decide +kernel) (by decide +kernel)
theorem tT_J7_fill_53178 : mm_T yJ7_fill_53178 cJ7_fill_53178 4 none 2 := ⟨wd_815, wd_154, by decide +kernel, by decide +kernel, by decide +kernel, by decide +kernel⟩
theorem wd_813 : Cond.methodLink RX0 46 yJ7_fill_53178 ∈ lw_good := mm_wd 813 (by decide +kernel) (by decide +kernel)
theorem wd_814 : Cond.static yJ7_fill_53178 ∈ lw_good := mm_wd 814 (by decide +kernel) (by decide +kernel)
def F_X0_clear_10 : Nat → Option Nat → Int32 → MH → Option MH
  | 0 => fun _ _ _ => none
  | n + 1 => fun l0 l1 h => if (8 : Int32) ≤ l1 then (some h) else ((gR h l0 0 0).bind fun v17 => (sI h v17 0 ((3 : Int32) + l1) ((-1) : Int32)).bind fun h24 => F_X0_clear_10 n l0 (l1 + (1 : Int32)) h24)
set_option maxRecDepth 20000 in
set_option maxHeartbeats 4000000 in
theorem w_X0_clear_10 {d : Nat} {V : Nat → List (Nat × Value) → List Value → MH → Prop} {hz : MH} (hd : 2 ≤ d) (C : mm_C d yX0_clear cX0_clear 2 none (.inr none) hz V) : ∀ (n : Nat) (l0 : Option Nat) (l1 : Int32) (h : MH), F_X0_clear_10 n l0 l1 h = some hz → V 10 [(0, va_rf l0), (1, .int l1)] [] h := by
  intro n
  induction n with
  | zero => intro l0 l1 h hK; cases hK
  | succ n ih =>
    intro l0 l1 h hK
    replace hK : (if (8 : Int32) ≤ l1 then (some h) else ((gR h l0 0 0).bind fun v17 => (sI h v17 0 ((3 : Int32) + l1) ((-1) : Int32)).bind fun h24 => F_X0_clear_10 n l0 (l1 + (1 : Int32)) h24)) = some hz := hK
    refine mm_iload_n C (pc := 10) 1 dX0_clear_10 rfl ?_
    refine mm_bipush C (pc := 11) (v := (8 : Int32)) dX0_clear_11 (by decide) ?_
    refine mm_icmp_ge C (pc := 13) (tgt := 31) dX0_clear_13 (by decide) (fun hc => ?_) (fun hc => ?_)
    · replace hK := mm_ip hc hK
      cases hK
      exact mm_vret C (pc := 31) rfl dX0_clear_31 rfl rfl
    · replace hK := mm_in hc hK
      refine mm_aload_n C (pc := 16) 0 dX0_clear_16 rfl ?_
      replace hK := mm_bd hK; obtain ⟨v17, e17, hK⟩ := hK
      refine mm_getr C (pc := 17) (k := 0) inGX0 rfl (by decide) wd_816 dX0_clear_17 e17 ?_
      refine mm_iconst C (pc := 20) (v := (3 : Int32)) dX0_clear_20 (by decide) ?_
      refine mm_iload_n C (pc := 21) 1 dX0_clear_21 rfl ?_
      refine mm_iadd C (pc := 22) dX0_clear_22 ?_
      refine mm_iconst C (pc := 23) (v := ((-1) : Int32)) dX0_clear_23 (by decide) ?_
      replace hK := mm_bd hK; obtain ⟨h24, e24, hK⟩ := hK
      refine mm_iast C (pc := 24) dX0_clear_24 e24 ?_
      refine mm_iinc C (pc := 25) (v := (l1 + (1 : Int32))) (lv' := [(1, .int (l1 + (1 : Int32))), (0, va_rf l0)]) 1 dX0_clear_25 rfl rfl (by decide) (by simp [mm_crf]) ?_
      refine mm_goto C (pc := 28) (tgt := 10) dX0_clear_28 (by decide) ?_
      refine mm_sub C [1, 0] rfl ?_
      exact ih _ _ _ hK
def F_X0_clear (a0 : Option Nat) (h : MH) : Option MH := (gR h a0 0 0).bind fun v1 => (F_J7_fill_53178 v1 (0 : Int32) h).bind fun h5 => F_X0_clear_10 mm_N a0 (0 : Int32) h5
set_option maxRecDepth 20000 in
set_option maxHeartbeats 4000000 in
theorem S_X0_clear {d : Nat} (hd : 2 ≤ d) {a0 : Option Nat} {h : MH} {hz : MH} (hK : F_X0_clear a0 h = some hz) : mm_M yX0_clear cX0_clear 2 none d [va_rf a0] h (.inr none) hz := by
  refine mm_ofV (by decide +kernel) (by simp [lg_sl, mm_crf, mm_cti, mm_ctl]) (fun V C => ?_)
  rw [show lv_args 0 [va_rf a0] = [(0, va_rf a0)] by simp [lv_args, mm_crf, mm_cti, mm_ctl]]
  unfold F_X0_clear at hK
  refine mm_aload_n C (pc := 0) 0 dX0_clear_0 rfl ?_
  replace hK := mm_bd hK; obtain ⟨v1, e1, hK⟩ := hK
  refine mm_getr C (pc := 1) (k := 0) inGX0 rfl (by decide) wd_816 dX0_clear_1 e1 ?_
  refine mm_iconst C (pc := 4) (v := (0 : Int32)) dX0_clear_4 (by decide) ?_
  replace hK := mm_bd hK; obtain ⟨h5, e5, hK⟩ := hK
  refine mm_callS C (pc := 5) (d1 := 1) (As := [va_rf v1, .int (0 : Int32)]) (st := []) (vk := none) ((S_J7_fill_53178 (by omega)) e5) tT_J7_fill_53178 wd_813 wd_814 (by omega) (by decide) rfl (by simp [mm_crf, mm_cti, mm_ctl]) rfl dX0_clear_5 ?_
  show V _ _ [] _
  refine mm_iconst C (pc := 8) (v := (0 : Int32)) dX0_clear_8 (by decide) ?_
  refine mm_istore_n C (pc := 9) (i := 1) (lv' := [(1, .int (0 : Int32)), (0, va_rf a0)]) dX0_clear_9 rfl (by decide) (by simp [mm_crf]) ?_
  refine mm_sub C [1, 0] rfl ?_
  exact w_X0_clear_10 hd C _ _ _ _ hK
theorem wd_806 : Cond.methodLink RX0 5 Lib.objectInit ∈ lw_good := mm_wd 806 (by decide +kernel) (by decide +kernel)
theorem wd_807 : Cond.classLink RX0 15 RX1 ∈ lw_good := mm_wd 807 (by decide +kernel) (by decide +kernel)
theorem wd_808 : Cond.methodLinkNest RX0 17 yX1_init "CrossedLines" ∈ mm_nw := mm_wn 808 (by decide +kernel) (by decide +kernel)
theorem wd_817 : Cond.fieldLink RX0 18 "CrossedLines$Board" "course" "LCrossedLines$Course;" ∈ lw_good := mm_wd 817 (by decide +kernel) (by decide +kernel)
theorem wd_818 : Cond.fieldLink RX0 22 "CrossedLines$Board" "plan" "LCrossedLines$Plan;" ∈ lw_good := mm_wd 818 (by decide +kernel) (by decide +kernel)
theorem wd_812 : Cond.code yX0_clear cX0_clear 2 none ∈ lw_good := mm_wd 812 (by decide +kernel) (by decide +kernel)
theorem wd_150 : Cond.initialized RX0 ∈ lw_good := mm_wd 150 (by decide +kernel) (by decide +kernel)
theorem tT_X0_clear : mm_T yX0_clear cX0_clear 2 none 0 := ⟨wd_812, wd_150, by decide +kernel, by decide +kernel, by decide +kernel, by decide +kernel⟩
theorem wd_809 : Cond.methodLink RX0 26 yX0_clear ∈ lw_good := mm_wd 809 (by decide +kernel) (by decide +kernel)
theorem wd_811 : Cond.instanceMethod yX0_clear ∈ lw_good := mm_wd 811 (by decide +kernel) (by decide +kernel)
theorem wd_2 : Cond.selects RX0 yX0_clear yX0_clear ∈ lw_good := mm_wd 2 (by decide +kernel) (by decide +kernel)
def F_X0_init (a0 : Option Nat) (a1 : Option Nat) (h : MH) : Option MH := a0.bind fun b1 => mm_b2 (nI_ h 0 (81 : Int32)) fun v7 h7 => (pR h7 (some b1) 0 0 v7).bind fun h9 => mm_b2 (nO h9 1 [.null, .int 0, .null, .null, .null, .null] 6) fun v13 h13 => v13.bind fun b17 => (F_X1_init (some b17) h13).bind fun h17 => (pR h17 (some b1) 0 1 (some b17)).bind fun h20 => (pR h20 (some b1) 0 2 a1).bind fun h25 => (cV h25 (some b1) 0 (F_X0_clear (some b1) h25)).bind fun h29 => some h29
set_option maxRecDepth 20000 in
set_option maxHeartbeats 4000000 in
theorem S_X0_init {d : Nat} (hd : 3 ≤ d) {a0 : Option Nat} {a1 : Option Nat} {h : MH} {hz : MH} (hK : F_X0_init a0 a1 h = some hz) : mm_M yX0_init cX0_init 2 none d [va_rf a0, va_rf a1] h (.inr none) hz := by
  refine mm_ofV (by decide +kernel) (by simp [lg_sl, mm_crf, mm_cti, mm_ctl]) (fun V C => ?_)
  rw [show lv_args 0 [va_rf a0, va_rf a1] = [(0, va_rf a0), (1, va_rf a1)] by simp [lv_args, mm_crf, mm_cti, mm_ctl]]
  unfold F_X0_init at hK
  refine mm_aload_n C (pc := 0) 0 dX0_init_0 rfl ?_
  replace hK := mm_bd hK; obtain ⟨b1, e1, hK⟩ := hK
  subst e1
  refine mm_objInit C (pc := 1) wd_806 wd_181 wd_182 (by omega) (by simp [mm_crf, mm_cti, mm_ctl]) dX0_init_1 ?_
  refine mm_aload_n C (pc := 4) 0 dX0_init_4 rfl ?_
  refine mm_bipush C (pc := 5) (v := (81 : Int32)) dX0_init_5 (by decide) ?_
  replace hK := mm_b2s hK; obtain ⟨v7, h7, e7, hK⟩ := hK
  refine mm_newI C (pc := 7) wd_200 dX0_init_7 e7 ?_
  replace hK := mm_bd hK; obtain ⟨h9, e9, hK⟩ := hK
  refine mm_putr C (pc := 9) (k := 0) true (fun _ => ⟨rfl, rfl⟩) inGX0 tyX0 tyX0_ok nmX0 rfl (by decide) wd_816 rfl rfl dX0_init_9 e9 ?_
  refine mm_aload_n C (pc := 12) 0 dX0_init_12 rfl ?_
  replace hK := mm_b2s hK; obtain ⟨v13, h13, e13, hK⟩ := hK
  refine mm_new C (pc := 13) inGX1 tyX1 tyX1_ok rfl wd_807 wd_213 wd_145 (mm_dv (by decide)) (fun _ => rfl) dX0_init_13 e13 ?_
  refine mm_dup C (pc := 16) dX0_init_16 mm_crf ?_
  replace hK := mm_bd hK; obtain ⟨b17, e17, hK⟩ := hK
  subst e17
  replace hK := mm_bd hK; obtain ⟨h17, f17, hK⟩ := hK
  refine mm_callI C (pc := 17) (d1 := 1) (As := []) (st := [va_rf (some b17), va_rf (some b1)]) true ((S_X1_init (by omega)) f17) tT_X1_init rfl wd_808 wd_215 (by omega) (by decide) rfl (by simp [mm_crf, mm_cti, mm_ctl]) rfl dX0_init_17 ?_
  replace hK := mm_bd hK; obtain ⟨h20, e20, hK⟩ := hK
  refine mm_putr C (pc := 20) (k := 1) true (fun _ => ⟨rfl, rfl⟩) inGX0 tyX0 tyX0_ok nmX0 rfl (by decide) wd_817 rfl rfl dX0_init_20 e20 ?_
  refine mm_aload_n C (pc := 23) 0 dX0_init_23 rfl ?_
  refine mm_aload_n C (pc := 24) 1 dX0_init_24 rfl ?_
  replace hK := mm_bd hK; obtain ⟨h25, e25, hK⟩ := hK
  refine mm_putr C (pc := 25) (k := 2) false (fun z => by cases z) inGX0 tyX0 tyX0_ok nmX0 rfl (by decide) wd_818 rfl rfl dX0_init_25 e25 ?_
  refine mm_aload_n C (pc := 28) 0 dX0_init_28 rfl ?_
  replace hK := mm_bd hK; obtain ⟨h29, e29, hK⟩ := hK
  obtain ⟨o29, e29⟩ := cV_some e29
  refine mm_callV C (pc := 29) (d1 := 2) (As := []) (st := []) (vk := none) ((S_X0_clear (by omega)) e29) tT_X0_clear o29 (Or.inr ⟨_, rfl, rfl⟩) wd_809 wd_811 wd_2 (by omega) (by decide) rfl (by simp [mm_crf, mm_cti, mm_ctl]) rfl dX0_init_29 ?_
  show V _ _ [] _
  cases hK
  exact mm_vret C (pc := 32) rfl dX0_init_32 rfl rfl
theorem wd_833 : Cond.methodLink RX10 3 Lib.objectInit ∈ lw_good := mm_wd 833 (by decide +kernel) (by decide +kernel)
theorem wd_844 : Cond.arrayClass .long ∈ lw_good := mm_wd 844 (by decide +kernel) (by decide +kernel)
theorem wd_834 : Cond.fieldLink RX10 9 "CrossedLines$Tray" "row" "[J" ∈ lw_good := mm_wd 834 (by decide +kernel) (by decide +kernel)
theorem inGX10 : ∀ w ∈ u_ws RX10 TX10 3, w ∈ lw_good := mm_ws [837, 839, 841] (by decide +kernel) (by decide +kernel)
theorem wd_835 : Cond.fieldLink RX10 15 "CrossedLines$Tray" "sort" "I" ∈ lw_good := mm_wd 835 (by decide +kernel) (by decide +kernel)
theorem wd_836 : Cond.fieldLink RX10 19 "CrossedLines$Tray" "many" "I" ∈ lw_good := mm_wd 836 (by decide +kernel) (by decide +kernel)
def F_X10_init (a0 : Option Nat) (h : MH) : Option MH := a0.bind fun b1 => mm_b2 (nL_ h (30 : Int32)) fun v7 h7 => (pR h7 (some b1) 10 0 v7).bind fun h9 => (pI h9 (some b1) 10 1 (0 : Int32)).bind fun h14 => (pI h14 (some b1) 10 2 ((-1) : Int32)).bind fun h19 => some h19
set_option maxRecDepth 20000 in
set_option maxHeartbeats 4000000 in
theorem S_X10_init {d : Nat} (hd : 1 ≤ d) {a0 : Option Nat} {h : MH} {hz : MH} (hK : F_X10_init a0 h = some hz) : mm_M yX10_init cX10_init 1 none d [va_rf a0] h (.inr none) hz := by
  refine mm_ofV (by decide +kernel) (by simp [lg_sl, mm_crf, mm_cti, mm_ctl]) (fun V C => ?_)
  rw [show lv_args 0 [va_rf a0] = [(0, va_rf a0)] by simp [lv_args, mm_crf, mm_cti, mm_ctl]]
  unfold F_X10_init at hK
  refine mm_aload_n C (pc := 0) 0 dX10_init_0 rfl ?_
  replace hK := mm_bd hK; obtain ⟨b1, e1, hK⟩ := hK
  subst e1
  refine mm_objInit C (pc := 1) wd_833 wd_181 wd_182 (by omega) (by simp [mm_crf, mm_cti, mm_ctl]) dX10_init_1 ?_
  refine mm_aload_n C (pc := 4) 0 dX10_init_4 rfl ?_
  refine mm_bipush C (pc := 5) (v := (30 : Int32)) dX10_init_5 (by decide) ?_
  replace hK := mm_b2s hK; obtain ⟨v7, h7, e7, hK⟩ := hK
  refine mm_newJ C (pc := 7) wd_844 dX10_init_7 e7 ?_
  replace hK := mm_bd hK; obtain ⟨h9, e9, hK⟩ := hK
  refine mm_putr C (pc := 9) (k := 0) true (fun _ => ⟨rfl, rfl⟩) inGX10 tyX10 tyX10_ok nmX10 rfl (by decide) wd_834 rfl rfl dX10_init_9 e9 ?_
  refine mm_aload_n C (pc := 12) 0 dX10_init_12 rfl ?_
  refine mm_iconst C (pc := 13) (v := (0 : Int32)) dX10_init_13 (by decide) ?_
  replace hK := mm_bd hK; obtain ⟨h14, e14, hK⟩ := hK
  refine mm_puti C (pc := 14) (k := 1) false (fun z => by cases z) inGX10 tyX10 tyX10_ok nmX10 rfl (by decide) wd_835 rfl rfl dX10_init_14 e14 ?_
  refine mm_aload_n C (pc := 17) 0 dX10_init_17 rfl ?_
  refine mm_iconst C (pc := 18) (v := ((-1) : Int32)) dX10_init_18 (by decide) ?_
  replace hK := mm_bd hK; obtain ⟨h19, e19, hK⟩ := hK
  refine mm_puti C (pc := 19) (k := 2) false (fun z => by cases z) inGX10 tyX10 tyX10_ok nmX10 rfl (by decide) wd_836 rfl rfl dX10_init_19 e19 ?_
  cases hK
  exact mm_vret C (pc := 22) rfl dX10_init_22 rfl rfl
theorem wd_180 : Cond.methodLink RX11 3 Lib.objectInit ∈ lw_good := mm_wd 180 (by decide +kernel) (by decide +kernel)
theorem wd_199 : Cond.arrayClass .byte ∈ lw_good := mm_wd 199 (by decide +kernel) (by decide +kernel)
theorem wd_845 : Cond.fieldLink RX11 9 "CrossedLines" "tape" "[B" ∈ lw_good := mm_wd 845 (by decide +kernel) (by decide +kernel)
theorem inGX11 : ∀ w ∈ u_ws RX11 TX11 16, w ∈ lw_good := mm_ws [861, 863, 865, 867, 869, 871, 873, 875, 877, 879, 881, 883, 885, 887, 889, 891] (by decide +kernel) (by decide +kernel)
theorem wd_846 : Cond.fieldLink RX11 13 "CrossedLines" "bytes" "I" ∈ lw_good := mm_wd 846 (by decide +kernel) (by decide +kernel)
theorem wd_848 : Cond.fieldLink RX11 17 "CrossedLines" "faultKind" "I" ∈ lw_good := mm_wd 848 (by decide +kernel) (by decide +kernel)
theorem wd_849 : Cond.fieldLink RX11 20 "CrossedLines" "faultPlace" "I" ∈ lw_good := mm_wd 849 (by decide +kernel) (by decide +kernel)
theorem wd_183 : Cond.classLink RX11 23 RX3 ∈ lw_good := mm_wd 183 (by decide +kernel) (by decide +kernel)
theorem wd_184 : Cond.instantiable RX3 3 ∈ lw_good := mm_wd 184 (by decide +kernel) (by decide +kernel)
theorem wd_143 : Cond.initialized RX3 ∈ lw_good := mm_wd 143 (by decide +kernel) (by decide +kernel)
theorem wd_187 : Cond.code yX3_init cX3_init 1 none ∈ lw_good := mm_wd 187 (by decide +kernel) (by decide +kernel)
theorem tT_X3_init : mm_T yX3_init cX3_init 1 none 0 := ⟨wd_187, wd_143, by decide +kernel, by decide +kernel, by decide +kernel, by decide +kernel⟩
theorem wd_185 : Cond.methodLinkNest RX11 25 yX3_init "CrossedLines" ∈ mm_nw := mm_wn 185 (by decide +kernel) (by decide +kernel)
theorem wd_186 : Cond.instanceMethod yX3_init ∈ lw_good := mm_wd 186 (by decide +kernel) (by decide +kernel)
theorem wd_851 : Cond.fieldLink RX11 26 "CrossedLines" "deeds" "LCrossedLines$Deeds;" ∈ lw_good := mm_wd 851 (by decide +kernel) (by decide +kernel)
theorem wd_201 : Cond.classLink RX11 30 RX0 ∈ lw_good := mm_wd 201 (by decide +kernel) (by decide +kernel)
theorem wd_202 : Cond.arrayOver (.object RX0) ∈ mm_nw := mm_wn 202 (by decide +kernel) (by decide +kernel)
theorem wd_853 : Cond.fieldLink RX11 32 "CrossedLines" "boardImages" "[LCrossedLines$Board;" ∈ lw_good := mm_wd 853 (by decide +kernel) (by decide +kernel)
theorem wd_203 : Cond.arrayOver (.object RX3) ∈ mm_nw := mm_wn 203 (by decide +kernel) (by decide +kernel)
theorem wd_854 : Cond.fieldLink RX11 36 "CrossedLines" "deedsImages" "[LCrossedLines$Deeds;" ∈ lw_good := mm_wd 854 (by decide +kernel) (by decide +kernel)
theorem wd_204 : Cond.classLink RX11 40 RX10 ∈ lw_good := mm_wd 204 (by decide +kernel) (by decide +kernel)
theorem wd_205 : Cond.arrayOver (.object RX10) ∈ mm_nw := mm_wn 205 (by decide +kernel) (by decide +kernel)
theorem wd_855 : Cond.fieldLink RX11 42 "CrossedLines" "trays" "[LCrossedLines$Tray;" ∈ lw_good := mm_wd 855 (by decide +kernel) (by decide +kernel)
theorem wd_206 : Cond.classLink RX11 46 RX4 ∈ lw_good := mm_wd 206 (by decide +kernel) (by decide +kernel)
theorem wd_207 : Cond.instantiable RX4 8 ∈ lw_good := mm_wd 207 (by decide +kernel) (by decide +kernel)
theorem wd_144 : Cond.initialized RX4 ∈ lw_good := mm_wd 144 (by decide +kernel) (by decide +kernel)
theorem wd_210 : Cond.code yX4_init cX4_init 1 none ∈ lw_good := mm_wd 210 (by decide +kernel) (by decide +kernel)
theorem tT_X4_init : mm_T yX4_init cX4_init 1 none 0 := ⟨wd_210, wd_144, by decide +kernel, by decide +kernel, by decide +kernel, by decide +kernel⟩
theorem wd_208 : Cond.methodLinkNest RX11 48 yX4_init "CrossedLines" ∈ mm_nw := mm_wn 208 (by decide +kernel) (by decide +kernel)
theorem wd_209 : Cond.instanceMethod yX4_init ∈ lw_good := mm_wd 209 (by decide +kernel) (by decide +kernel)
theorem wd_856 : Cond.fieldLink RX11 49 "CrossedLines" "fitting" "LCrossedLines$Fitting;" ∈ lw_good := mm_wd 856 (by decide +kernel) (by decide +kernel)
theorem wd_262 : Cond.classLink RX11 53 RX2 ∈ lw_good := mm_wd 262 (by decide +kernel) (by decide +kernel)
theorem wd_263 : Cond.instantiable RX2 6 ∈ lw_good := mm_wd 263 (by decide +kernel) (by decide +kernel)
theorem wd_146 : Cond.initialized RX2 ∈ lw_good := mm_wd 146 (by decide +kernel) (by decide +kernel)
theorem wd_266 : Cond.code yX2_init cX2_init 1 none ∈ lw_good := mm_wd 266 (by decide +kernel) (by decide +kernel)
theorem tT_X2_init : mm_T yX2_init cX2_init 1 none 0 := ⟨wd_266, wd_146, by decide +kernel, by decide +kernel, by decide +kernel, by decide +kernel⟩
theorem wd_264 : Cond.methodLinkNest RX11 55 yX2_init "CrossedLines" ∈ mm_nw := mm_wn 264 (by decide +kernel) (by decide +kernel)
theorem wd_265 : Cond.instanceMethod yX2_init ∈ lw_good := mm_wd 265 (by decide +kernel) (by decide +kernel)
theorem wd_857 : Cond.fieldLink RX11 56 "CrossedLines" "crossing" "LCrossedLines$Crossing;" ∈ lw_good := mm_wd 857 (by decide +kernel) (by decide +kernel)
theorem wd_289 : Cond.classLink RX11 60 RX6 ∈ lw_good := mm_wd 289 (by decide +kernel) (by decide +kernel)
theorem wd_290 : Cond.instantiable RX6 8 ∈ lw_good := mm_wd 290 (by decide +kernel) (by decide +kernel)
theorem wd_147 : Cond.initialized RX6 ∈ lw_good := mm_wd 147 (by decide +kernel) (by decide +kernel)
theorem wd_293 : Cond.code yX6_init cX6_init 1 none ∈ lw_good := mm_wd 293 (by decide +kernel) (by decide +kernel)
theorem tT_X6_init : mm_T yX6_init cX6_init 1 none 0 := ⟨wd_293, wd_147, by decide +kernel, by decide +kernel, by decide +kernel, by decide +kernel⟩
theorem wd_291 : Cond.methodLinkNest RX11 62 yX6_init "CrossedLines" ∈ mm_nw := mm_wn 291 (by decide +kernel) (by decide +kernel)
theorem wd_292 : Cond.instanceMethod yX6_init ∈ lw_good := mm_wd 292 (by decide +kernel) (by decide +kernel)
theorem wd_858 : Cond.fieldLink RX11 63 "CrossedLines" "pairs" "LCrossedLines$Pairs;" ∈ lw_good := mm_wd 858 (by decide +kernel) (by decide +kernel)
theorem wd_859 : Cond.fieldLink RX11 67 "CrossedLines" "spouses" "[I" ∈ lw_good := mm_wd 859 (by decide +kernel) (by decide +kernel)
theorem wd_860 : Cond.fieldLink RX11 71 "CrossedLines" "comers" "[I" ∈ lw_good := mm_wd 860 (by decide +kernel) (by decide +kernel)
theorem wd_320 : Cond.classLink RX11 74 RX7 ∈ lw_good := mm_wd 320 (by decide +kernel) (by decide +kernel)
theorem wd_321 : Cond.instantiable RX7 15 ∈ lw_good := mm_wd 321 (by decide +kernel) (by decide +kernel)
theorem wd_322 : Cond.classLink RX11 76 RX9 ∈ lw_good := mm_wd 322 (by decide +kernel) (by decide +kernel)
theorem wd_323 : Cond.instantiable RX9 6 ∈ lw_good := mm_wd 323 (by decide +kernel) (by decide +kernel)
theorem wd_149 : Cond.initialized RX9 ∈ lw_good := mm_wd 149 (by decide +kernel) (by decide +kernel)
theorem wd_326 : Cond.code yX9_init cX9_init 2 none ∈ lw_good := mm_wd 326 (by decide +kernel) (by decide +kernel)
theorem tT_X9_init : mm_T yX9_init cX9_init 2 none 1 := ⟨wd_326, wd_149, by decide +kernel, by decide +kernel, by decide +kernel, by decide +kernel⟩
theorem wd_324 : Cond.methodLink RX11 78 yX9_init ∈ lw_good := mm_wd 324 (by decide +kernel) (by decide +kernel)
theorem wd_325 : Cond.instanceMethod yX9_init ∈ lw_good := mm_wd 325 (by decide +kernel) (by decide +kernel)
theorem wd_349 : Cond.code yX7_init cX7_init 2 none ∈ lw_good := mm_wd 349 (by decide +kernel) (by decide +kernel)
theorem tT_X7_init : mm_T yX7_init cX7_init 2 none 1 := ⟨wd_349, wd_148, by decide +kernel, by decide +kernel, by decide +kernel, by decide +kernel⟩
theorem wd_347 : Cond.methodLink RX11 81 yX7_init ∈ lw_good := mm_wd 347 (by decide +kernel) (by decide +kernel)
theorem wd_348 : Cond.instanceMethod yX7_init ∈ lw_good := mm_wd 348 (by decide +kernel) (by decide +kernel)
theorem wd_847 : Cond.fieldLink RX11 84 "CrossedLines" "parser" "LCrossedLines$Parser;" ∈ lw_good := mm_wd 847 (by decide +kernel) (by decide +kernel)
theorem wd_397 : Cond.instantiable RX0 3 ∈ lw_good := mm_wd 397 (by decide +kernel) (by decide +kernel)
theorem wd_398 : Cond.classLink RX11 88 RX8 ∈ lw_good := mm_wd 398 (by decide +kernel) (by decide +kernel)
theorem wd_399 : Cond.instantiable RX8 7 ∈ lw_good := mm_wd 399 (by decide +kernel) (by decide +kernel)
theorem wd_151 : Cond.initialized RX8 ∈ lw_good := mm_wd 151 (by decide +kernel) (by decide +kernel)
theorem wd_402 : Cond.code yX8_init cX8_init 5 none ∈ lw_good := mm_wd 402 (by decide +kernel) (by decide +kernel)
theorem tT_X8_init : mm_T yX8_init cX8_init 5 none 1 := ⟨wd_402, wd_151, by decide +kernel, by decide +kernel, by decide +kernel, by decide +kernel⟩
theorem wd_400 : Cond.methodLink RX11 90 yX8_init ∈ lw_good := mm_wd 400 (by decide +kernel) (by decide +kernel)
theorem wd_401 : Cond.instanceMethod yX8_init ∈ lw_good := mm_wd 401 (by decide +kernel) (by decide +kernel)
theorem wd_805 : Cond.code yX0_init cX0_init 2 none ∈ lw_good := mm_wd 805 (by decide +kernel) (by decide +kernel)
theorem tT_X0_init : mm_T yX0_init cX0_init 2 none 1 := ⟨wd_805, wd_150, by decide +kernel, by decide +kernel, by decide +kernel, by decide +kernel⟩
theorem wd_803 : Cond.methodLink RX11 93 yX0_init ∈ lw_good := mm_wd 803 (by decide +kernel) (by decide +kernel)
theorem wd_804 : Cond.instanceMethod yX0_init ∈ lw_good := mm_wd 804 (by decide +kernel) (by decide +kernel)
theorem wd_850 : Cond.fieldLink RX11 96 "CrossedLines" "board" "LCrossedLines$Board;" ∈ lw_good := mm_wd 850 (by decide +kernel) (by decide +kernel)
theorem wd_819 : Cond.fieldLink RX11 100 "CrossedLines$Board" "plan" "LCrossedLines$Plan;" ∈ lw_good := mm_wd 819 (by decide +kernel) (by decide +kernel)
theorem wd_852 : Cond.fieldLink RX11 104 "CrossedLines" "trial" "LCrossedLines$Board;" ∈ lw_good := mm_wd 852 (by decide +kernel) (by decide +kernel)
theorem wd_829 : Cond.instantiable RX10 3 ∈ lw_good := mm_wd 829 (by decide +kernel) (by decide +kernel)
theorem wd_169 : Cond.initialized RX10 ∈ lw_good := mm_wd 169 (by decide +kernel) (by decide +kernel)
theorem wd_832 : Cond.code yX10_init cX10_init 1 none ∈ lw_good := mm_wd 832 (by decide +kernel) (by decide +kernel)
theorem tT_X10_init : mm_T yX10_init cX10_init 1 none 0 := ⟨wd_832, wd_169, by decide +kernel, by decide +kernel, by decide +kernel, by decide +kernel⟩
theorem wd_830 : Cond.methodLinkNest RX11 107 yX10_init "CrossedLines" ∈ mm_nw := mm_wn 830 (by decide +kernel) (by decide +kernel)
theorem wd_831 : Cond.instanceMethod yX10_init ∈ lw_good := mm_wd 831 (by decide +kernel) (by decide +kernel)
def F_X11_init_176 : Nat → Option Nat → Int32 → MH → Option MH
  | 0 => fun _ _ _ => none
  | n + 1 => fun l0 l1 h => if (4 : Int32) ≤ l1 then (some h) else ((gR h l0 11 10).bind fun v182 => mm_b2 (nO h 10 [.null, .int 0, .int 0] 3) fun v186 h186 => v186.bind fun b190 => (F_X10_init (some b190) h186).bind fun h190 => (sR h190 v182 4 10 l1 (some b190)).bind fun h193 => F_X11_init_176 n l0 (l1 + (1 : Int32)) h193)
set_option maxRecDepth 20000 in
set_option maxHeartbeats 4000000 in
theorem w_X11_init_176 {d : Nat} {V : Nat → List (Nat × Value) → List Value → MH → Prop} {hz : MH} (hd : 6 ≤ d) (C : mm_C d yX11_init cX11_init 2 none (.inr none) hz V) : ∀ (n : Nat) (l0 : Option Nat) (l1 : Int32) (h : MH), F_X11_init_176 n l0 l1 h = some hz → V 176 [(0, va_rf l0), (1, .int l1)] [] h := by
  intro n
  induction n with
  | zero => intro l0 l1 h hK; cases hK
  | succ n ih =>
    intro l0 l1 h hK
    replace hK : (if (4 : Int32) ≤ l1 then (some h) else ((gR h l0 11 10).bind fun v182 => mm_b2 (nO h 10 [.null, .int 0, .int 0] 3) fun v186 h186 => v186.bind fun b190 => (F_X10_init (some b190) h186).bind fun h190 => (sR h190 v182 4 10 l1 (some b190)).bind fun h193 => F_X11_init_176 n l0 (l1 + (1 : Int32)) h193)) = some hz := hK
    refine mm_iload_n C (pc := 176) 1 dX11_init_176 rfl ?_
    refine mm_iconst C (pc := 177) (v := (4 : Int32)) dX11_init_177 (by decide) ?_
    refine mm_icmp_ge C (pc := 178) (tgt := 200) dX11_init_178 (by decide) (fun hc => ?_) (fun hc => ?_)
    · replace hK := mm_ip hc hK
      cases hK
      exact mm_vret C (pc := 200) rfl dX11_init_200 rfl rfl
    · replace hK := mm_in hc hK
      refine mm_aload_n C (pc := 181) 0 dX11_init_181 rfl ?_
      replace hK := mm_bd hK; obtain ⟨v182, e182, hK⟩ := hK
      refine mm_getr C (pc := 182) (k := 10) inGX11 rfl (by decide) wd_855 dX11_init_182 e182 ?_
      refine mm_iload_n C (pc := 185) 1 dX11_init_185 rfl ?_
      replace hK := mm_b2s hK; obtain ⟨v186, h186, e186, hK⟩ := hK
      refine mm_new C (pc := 186) inGX10 tyX10 tyX10_ok rfl wd_204 wd_829 wd_169 (mm_dv (by decide)) (fun _ => rfl) dX11_init_186 e186 ?_
      refine mm_dup C (pc := 189) dX11_init_189 mm_crf ?_
      replace hK := mm_bd hK; obtain ⟨b190, e190, hK⟩ := hK
      subst e190
      replace hK := mm_bd hK; obtain ⟨h190, f190, hK⟩ := hK
      refine mm_callI C (pc := 190) (d1 := 1) (As := []) (st := [va_rf (some b190), .int l1, va_rf v182]) true ((S_X10_init (by omega)) f190) tT_X10_init rfl wd_830 wd_831 (by omega) (by decide) rfl (by simp [mm_crf, mm_cti, mm_ctl]) rfl dX11_init_190 ?_
      replace hK := mm_bd hK; obtain ⟨h193, e193, hK⟩ := hK
      refine mm_aast C (pc := 193) (q9 := (RX10, TX10, 3)) (fun _ => rfl) ⟨by decide, by decide⟩ (by decide) rfl dX11_init_193 e193 ?_
      refine mm_iinc C (pc := 194) (v := (l1 + (1 : Int32))) (lv' := [(1, .int (l1 + (1 : Int32))), (0, va_rf l0)]) 1 dX11_init_194 rfl rfl (by decide) (by simp [mm_crf]) ?_
      refine mm_goto C (pc := 197) (tgt := 176) dX11_init_197 (by decide) ?_
      refine mm_sub C [1, 0] rfl ?_
      exact ih _ _ _ hK
def F_X11_init (a0 : Option Nat) (h : MH) : Option MH := a0.bind fun b1 => mm_b2 (nI_ h 2 (900 : Int32)) fun v8 h8 => (pR h8 (some b1) 11 0 v8).bind fun h10 => (pI h10 (some b1) 11 1 (0 : Int32)).bind fun h15 => (pI h15 (some b1) 11 3 (0 : Int32)).bind fun h20 => (pI h20 (some b1) 11 4 ((-1) : Int32)).bind fun h25 => mm_b2 (nO h25 3 [.null, .int 0, .int 0] 3) fun v29 h29 => v29.bind fun b33 => (F_X3_init (some b33) h29).bind fun h33 => (pR h33 (some b1) 11 6 (some b33)).bind fun h36 => mm_b2 (nR_ h36 5 (3 : Int32)) fun v41 h41 => (pR h41 (some b1) 11 8 v41).bind fun h44 => mm_b2 (nR_ h44 6 (3 : Int32)) fun v49 h49 => (pR h49 (some b1) 11 9 v49).bind fun h52 => mm_b2 (nR_ h52 4 (4 : Int32)) fun v57 h57 => (pR h57 (some b1) 11 10 v57).bind fun h60 => mm_b2 (nO h60 4 [.null, .null, .null, .null, .null, .int 0, .int 0, .int 0] 8) fun v64 h64 => v64.bind fun b68 => (F_X4_init (some b68) h64).bind fun h68 => (pR h68 (some b1) 11 11 (some b68)).bind fun h71 => mm_b2 (nO h71 2 [.null, .null, .null, .null, .null, .int 0] 6) fun v75 h75 => v75.bind fun b79 => (F_X2_init (some b79) h75).bind fun h79 => (pR h79 (some b1) 11 12 (some b79)).bind fun h82 => mm_b2 (nO h82 6 [.null, .null, .null, .null, .int 0, .int 0, .int 0, .int 0] 8) fun v86 h86 => v86.bind fun b90 => (F_X6_init (some b90) h86).bind fun h90 => (pR h90 (some b1) 11 13 (some b90)).bind fun h93 => mm_b2 (nI_ h93 0 (8 : Int32)) fun v99 h99 => (pR h99 (some b1) 11 14 v99).bind fun h101 => mm_b2 (nI_ h101 0 (8 : Int32)) fun v107 h107 => (pR h107 (some b1) 11 15 v107).bind fun h109 => mm_b2 (nO h109 7 [.null, .null, .null, .null, .null, .null, .int 0, .int 0, .int 0, .int 0, .int 0, .int 0, .int 0, .int 0, .int 0] 15) fun v113 h113 => mm_b2 (nO h113 9 [.null, .int 0, .int 0, .int 0, .int 0, .int 0] 6) fun v117 h117 => (gR h117 (some b1) 11 0).bind fun v122 => v117.bind fun b125 => (F_X9_init (some b125) v122 h117).bind fun h125 => v113.bind fun b128 => (F_X7_init (some b128) (some b125) h125).bind fun h128 => (pR h128 (some b1) 11 2 (some b128)).bind fun h131 => mm_b2 (nO h131 0 [.null, .null, .null] 3) fun v135 h135 => mm_b2 (nO h135 8 [.int 0, .int 0, .int 0, .null, .null, .null, .null] 7) fun v139 h139 => (gR h139 (some b1) 11 2).bind fun v144 => v139.bind fun b147 => (F_X8_init (some b147) v144 h139).bind fun h147 => v135.bind fun b150 => (F_X0_init (some b150) (some b147) h147).bind fun h150 => (pR h150 (some b1) 11 5 (some b150)).bind fun h153 => mm_b2 (nO h153 0 [.null, .null, .null] 3) fun v157 h157 => (gR h157 (some b1) 11 5).bind fun v162 => (gR h157 v162 0 2).bind fun v165 => v157.bind fun b168 => (F_X0_init (some b168) v165 h157).bind fun h168 => (pR h168 (some b1) 11 7 (some b168)).bind fun h171 => F_X11_init_176 mm_N (some b1) (0 : Int32) h171
set_option maxRecDepth 20000 in
set_option maxHeartbeats 4000000 in
theorem S_X11_init {d : Nat} (hd : 6 ≤ d) {a0 : Option Nat} {h : MH} {hz : MH} (hK : F_X11_init a0 h = some hz) : mm_M yX11_init cX11_init 2 none d [va_rf a0] h (.inr none) hz := by
  refine mm_ofV (by decide +kernel) (by simp [lg_sl, mm_crf, mm_cti, mm_ctl]) (fun V C => ?_)
  rw [show lv_args 0 [va_rf a0] = [(0, va_rf a0)] by simp [lv_args, mm_crf, mm_cti, mm_ctl]]
  unfold F_X11_init at hK
  refine mm_aload_n C (pc := 0) 0 dX11_init_0 rfl ?_
  replace hK := mm_bd hK; obtain ⟨b1, e1, hK⟩ := hK
  subst e1
  refine mm_objInit C (pc := 1) wd_180 wd_181 wd_182 (by omega) (by simp [mm_crf, mm_cti, mm_ctl]) dX11_init_1 ?_
  refine mm_aload_n C (pc := 4) 0 dX11_init_4 rfl ?_
  refine mm_sipush C (pc := 5) (v := (900 : Int32)) dX11_init_5 (by decide) ?_
  replace hK := mm_b2s hK; obtain ⟨v8, h8, e8, hK⟩ := hK
  refine mm_newB C (pc := 8) wd_199 dX11_init_8 e8 ?_
  replace hK := mm_bd hK; obtain ⟨h10, e10, hK⟩ := hK
  refine mm_putr C (pc := 10) (k := 0) true (fun _ => ⟨rfl, rfl⟩) inGX11 tyX11 tyX11_ok nmX11 rfl (by decide) wd_845 rfl rfl dX11_init_10 e10 ?_
  refine mm_aload_n C (pc := 13) 0 dX11_init_13 rfl ?_
  refine mm_iconst C (pc := 14) (v := (0 : Int32)) dX11_init_14 (by decide) ?_
  replace hK := mm_bd hK; obtain ⟨h15, e15, hK⟩ := hK
  refine mm_puti C (pc := 15) (k := 1) false (fun z => by cases z) inGX11 tyX11 tyX11_ok nmX11 rfl (by decide) wd_846 rfl rfl dX11_init_15 e15 ?_
  refine mm_aload_n C (pc := 18) 0 dX11_init_18 rfl ?_
  refine mm_iconst C (pc := 19) (v := (0 : Int32)) dX11_init_19 (by decide) ?_
  replace hK := mm_bd hK; obtain ⟨h20, e20, hK⟩ := hK
  refine mm_puti C (pc := 20) (k := 3) false (fun z => by cases z) inGX11 tyX11 tyX11_ok nmX11 rfl (by decide) wd_848 rfl rfl dX11_init_20 e20 ?_
  refine mm_aload_n C (pc := 23) 0 dX11_init_23 rfl ?_
  refine mm_iconst C (pc := 24) (v := ((-1) : Int32)) dX11_init_24 (by decide) ?_
  replace hK := mm_bd hK; obtain ⟨h25, e25, hK⟩ := hK
  refine mm_puti C (pc := 25) (k := 4) false (fun z => by cases z) inGX11 tyX11 tyX11_ok nmX11 rfl (by decide) wd_849 rfl rfl dX11_init_25 e25 ?_
  refine mm_aload_n C (pc := 28) 0 dX11_init_28 rfl ?_
  replace hK := mm_b2s hK; obtain ⟨v29, h29, e29, hK⟩ := hK
  refine mm_new C (pc := 29) inGX3 tyX3 tyX3_ok rfl wd_183 wd_184 wd_143 (mm_dv (by decide)) (fun _ => rfl) dX11_init_29 e29 ?_
  refine mm_dup C (pc := 32) dX11_init_32 mm_crf ?_
  replace hK := mm_bd hK; obtain ⟨b33, e33, hK⟩ := hK
  subst e33
  replace hK := mm_bd hK; obtain ⟨h33, f33, hK⟩ := hK
  refine mm_callI C (pc := 33) (d1 := 1) (As := []) (st := [va_rf (some b33), va_rf (some b1)]) true ((S_X3_init (by omega)) f33) tT_X3_init rfl wd_185 wd_186 (by omega) (by decide) rfl (by simp [mm_crf, mm_cti, mm_ctl]) rfl dX11_init_33 ?_
  replace hK := mm_bd hK; obtain ⟨h36, e36, hK⟩ := hK
  refine mm_putr C (pc := 36) (k := 6) true (fun _ => ⟨rfl, rfl⟩) inGX11 tyX11 tyX11_ok nmX11 rfl (by decide) wd_851 rfl rfl dX11_init_36 e36 ?_
  refine mm_aload_n C (pc := 39) 0 dX11_init_39 rfl ?_
  refine mm_iconst C (pc := 40) (v := (3 : Int32)) dX11_init_40 (by decide) ?_
  replace hK := mm_b2s hK; obtain ⟨v41, h41, e41, hK⟩ := hK
  refine mm_anew C (pc := 41) 5 wd_201 wd_202 (fun _ => rfl) dX11_init_41 e41 ?_
  replace hK := mm_bd hK; obtain ⟨h44, e44, hK⟩ := hK
  refine mm_putr C (pc := 44) (k := 8) true (fun _ => ⟨rfl, rfl⟩) inGX11 tyX11 tyX11_ok nmX11 rfl (by decide) wd_853 rfl rfl dX11_init_44 e44 ?_
  refine mm_aload_n C (pc := 47) 0 dX11_init_47 rfl ?_
  refine mm_iconst C (pc := 48) (v := (3 : Int32)) dX11_init_48 (by decide) ?_
  replace hK := mm_b2s hK; obtain ⟨v49, h49, e49, hK⟩ := hK
  refine mm_anew C (pc := 49) 6 wd_183 wd_203 (fun _ => rfl) dX11_init_49 e49 ?_
  replace hK := mm_bd hK; obtain ⟨h52, e52, hK⟩ := hK
  refine mm_putr C (pc := 52) (k := 9) true (fun _ => ⟨rfl, rfl⟩) inGX11 tyX11 tyX11_ok nmX11 rfl (by decide) wd_854 rfl rfl dX11_init_52 e52 ?_
  refine mm_aload_n C (pc := 55) 0 dX11_init_55 rfl ?_
  refine mm_iconst C (pc := 56) (v := (4 : Int32)) dX11_init_56 (by decide) ?_
  replace hK := mm_b2s hK; obtain ⟨v57, h57, e57, hK⟩ := hK
  refine mm_anew C (pc := 57) 4 wd_204 wd_205 (fun _ => rfl) dX11_init_57 e57 ?_
  replace hK := mm_bd hK; obtain ⟨h60, e60, hK⟩ := hK
  refine mm_putr C (pc := 60) (k := 10) true (fun _ => ⟨rfl, rfl⟩) inGX11 tyX11 tyX11_ok nmX11 rfl (by decide) wd_855 rfl rfl dX11_init_60 e60 ?_
  refine mm_aload_n C (pc := 63) 0 dX11_init_63 rfl ?_
  replace hK := mm_b2s hK; obtain ⟨v64, h64, e64, hK⟩ := hK
  refine mm_new C (pc := 64) inGX4 tyX4 tyX4_ok rfl wd_206 wd_207 wd_144 (mm_dv (by decide)) (fun _ => rfl) dX11_init_64 e64 ?_
  refine mm_dup C (pc := 67) dX11_init_67 mm_crf ?_
  replace hK := mm_bd hK; obtain ⟨b68, e68, hK⟩ := hK
  subst e68
  replace hK := mm_bd hK; obtain ⟨h68, f68, hK⟩ := hK
  refine mm_callI C (pc := 68) (d1 := 2) (As := []) (st := [va_rf (some b68), va_rf (some b1)]) true ((S_X4_init (by omega)) f68) tT_X4_init rfl wd_208 wd_209 (by omega) (by decide) rfl (by simp [mm_crf, mm_cti, mm_ctl]) rfl dX11_init_68 ?_
  replace hK := mm_bd hK; obtain ⟨h71, e71, hK⟩ := hK
  refine mm_putr C (pc := 71) (k := 11) true (fun _ => ⟨rfl, rfl⟩) inGX11 tyX11 tyX11_ok nmX11 rfl (by decide) wd_856 rfl rfl dX11_init_71 e71 ?_
  refine mm_aload_n C (pc := 74) 0 dX11_init_74 rfl ?_
  replace hK := mm_b2s hK; obtain ⟨v75, h75, e75, hK⟩ := hK
  refine mm_new C (pc := 75) inGX2 tyX2 tyX2_ok rfl wd_262 wd_263 wd_146 (mm_dv (by decide)) (fun _ => rfl) dX11_init_75 e75 ?_
  refine mm_dup C (pc := 78) dX11_init_78 mm_crf ?_
  replace hK := mm_bd hK; obtain ⟨b79, e79, hK⟩ := hK
  subst e79
  replace hK := mm_bd hK; obtain ⟨h79, f79, hK⟩ := hK
  refine mm_callI C (pc := 79) (d1 := 2) (As := []) (st := [va_rf (some b79), va_rf (some b1)]) true ((S_X2_init (by omega)) f79) tT_X2_init rfl wd_264 wd_265 (by omega) (by decide) rfl (by simp [mm_crf, mm_cti, mm_ctl]) rfl dX11_init_79 ?_
  replace hK := mm_bd hK; obtain ⟨h82, e82, hK⟩ := hK
  refine mm_putr C (pc := 82) (k := 12) true (fun _ => ⟨rfl, rfl⟩) inGX11 tyX11 tyX11_ok nmX11 rfl (by decide) wd_857 rfl rfl dX11_init_82 e82 ?_
  refine mm_aload_n C (pc := 85) 0 dX11_init_85 rfl ?_
  replace hK := mm_b2s hK; obtain ⟨v86, h86, e86, hK⟩ := hK
  refine mm_new C (pc := 86) inGX6 tyX6 tyX6_ok rfl wd_289 wd_290 wd_147 (mm_dv (by decide)) (fun _ => rfl) dX11_init_86 e86 ?_
  refine mm_dup C (pc := 89) dX11_init_89 mm_crf ?_
  replace hK := mm_bd hK; obtain ⟨b90, e90, hK⟩ := hK
  subst e90
  replace hK := mm_bd hK; obtain ⟨h90, f90, hK⟩ := hK
  refine mm_callI C (pc := 90) (d1 := 1) (As := []) (st := [va_rf (some b90), va_rf (some b1)]) true ((S_X6_init (by omega)) f90) tT_X6_init rfl wd_291 wd_292 (by omega) (by decide) rfl (by simp [mm_crf, mm_cti, mm_ctl]) rfl dX11_init_90 ?_
  replace hK := mm_bd hK; obtain ⟨h93, e93, hK⟩ := hK
  refine mm_putr C (pc := 93) (k := 13) true (fun _ => ⟨rfl, rfl⟩) inGX11 tyX11 tyX11_ok nmX11 rfl (by decide) wd_858 rfl rfl dX11_init_93 e93 ?_
  refine mm_aload_n C (pc := 96) 0 dX11_init_96 rfl ?_
  refine mm_bipush C (pc := 97) (v := (8 : Int32)) dX11_init_97 (by decide) ?_
  replace hK := mm_b2s hK; obtain ⟨v99, h99, e99, hK⟩ := hK
  refine mm_newI C (pc := 99) wd_200 dX11_init_99 e99 ?_
  replace hK := mm_bd hK; obtain ⟨h101, e101, hK⟩ := hK
  refine mm_putr C (pc := 101) (k := 14) true (fun _ => ⟨rfl, rfl⟩) inGX11 tyX11 tyX11_ok nmX11 rfl (by decide) wd_859 rfl rfl dX11_init_101 e101 ?_
  refine mm_aload_n C (pc := 104) 0 dX11_init_104 rfl ?_
  refine mm_bipush C (pc := 105) (v := (8 : Int32)) dX11_init_105 (by decide) ?_
  replace hK := mm_b2s hK; obtain ⟨v107, h107, e107, hK⟩ := hK
  refine mm_newI C (pc := 107) wd_200 dX11_init_107 e107 ?_
  replace hK := mm_bd hK; obtain ⟨h109, e109, hK⟩ := hK
  refine mm_putr C (pc := 109) (k := 15) true (fun _ => ⟨rfl, rfl⟩) inGX11 tyX11 tyX11_ok nmX11 rfl (by decide) wd_860 rfl rfl dX11_init_109 e109 ?_
  refine mm_aload_n C (pc := 112) 0 dX11_init_112 rfl ?_
  replace hK := mm_b2s hK; obtain ⟨v113, h113, e113, hK⟩ := hK
  refine mm_new C (pc := 113) inGX7 tyX7 tyX7_ok rfl wd_320 wd_321 wd_148 (mm_dv (by decide)) (fun _ => rfl) dX11_init_113 e113 ?_
  refine mm_dup C (pc := 116) dX11_init_116 mm_crf ?_
  replace hK := mm_b2s hK; obtain ⟨v117, h117, e117, hK⟩ := hK
  refine mm_new C (pc := 117) inGX9 tyX9 tyX9_ok rfl wd_322 wd_323 wd_149 (mm_dv (by decide)) (fun _ => rfl) dX11_init_117 e117 ?_
  refine mm_dup C (pc := 120) dX11_init_120 mm_crf ?_
  refine mm_aload_n C (pc := 121) 0 dX11_init_121 rfl ?_
  replace hK := mm_bd hK; obtain ⟨v122, e122, hK⟩ := hK
  refine mm_getr C (pc := 122) (k := 0) inGX11 rfl (by decide) wd_845 dX11_init_122 e122 ?_
  replace hK := mm_bd hK; obtain ⟨b125, e125, hK⟩ := hK
  subst e125
  replace hK := mm_bd hK; obtain ⟨h125, f125, hK⟩ := hK
  refine mm_callI C (pc := 125) (d1 := 1) (As := [va_rf v122]) (st := [va_rf (some b125), va_rf v113, va_rf v113, va_rf (some b1)]) false ((S_X9_init (by omega)) f125) tT_X9_init rfl wd_324 wd_325 (by omega) (by decide) rfl (by simp [mm_crf, mm_cti, mm_ctl]) rfl dX11_init_125 ?_
  replace hK := mm_bd hK; obtain ⟨b128, e128, hK⟩ := hK
  subst e128
  replace hK := mm_bd hK; obtain ⟨h128, f128, hK⟩ := hK
  refine mm_callI C (pc := 128) (d1 := 1) (As := [va_rf (some b125)]) (st := [va_rf (some b128), va_rf (some b1)]) false ((S_X7_init (by omega)) f128) tT_X7_init rfl wd_347 wd_348 (by omega) (by decide) rfl (by simp [mm_crf, mm_cti, mm_ctl]) rfl dX11_init_128 ?_
  replace hK := mm_bd hK; obtain ⟨h131, e131, hK⟩ := hK
  refine mm_putr C (pc := 131) (k := 2) true (fun _ => ⟨rfl, rfl⟩) inGX11 tyX11 tyX11_ok nmX11 rfl (by decide) wd_847 rfl rfl dX11_init_131 e131 ?_
  refine mm_aload_n C (pc := 134) 0 dX11_init_134 rfl ?_
  replace hK := mm_b2s hK; obtain ⟨v135, h135, e135, hK⟩ := hK
  refine mm_new C (pc := 135) inGX0 tyX0 tyX0_ok rfl wd_201 wd_397 wd_150 (mm_dv (by decide)) (fun _ => rfl) dX11_init_135 e135 ?_
  refine mm_dup C (pc := 138) dX11_init_138 mm_crf ?_
  replace hK := mm_b2s hK; obtain ⟨v139, h139, e139, hK⟩ := hK
  refine mm_new C (pc := 139) inGX8 tyX8 tyX8_ok rfl wd_398 wd_399 wd_151 (mm_dv (by decide)) (fun _ => rfl) dX11_init_139 e139 ?_
  refine mm_dup C (pc := 142) dX11_init_142 mm_crf ?_
  refine mm_aload_n C (pc := 143) 0 dX11_init_143 rfl ?_
  replace hK := mm_bd hK; obtain ⟨v144, e144, hK⟩ := hK
  refine mm_getr C (pc := 144) (k := 2) inGX11 rfl (by decide) wd_847 dX11_init_144 e144 ?_
  replace hK := mm_bd hK; obtain ⟨b147, e147, hK⟩ := hK
  subst e147
  replace hK := mm_bd hK; obtain ⟨h147, f147, hK⟩ := hK
  refine mm_callI C (pc := 147) (d1 := 5) (As := [va_rf v144]) (st := [va_rf (some b147), va_rf v135, va_rf v135, va_rf (some b1)]) false ((S_X8_init (by omega)) f147) tT_X8_init rfl wd_400 wd_401 (by omega) (by decide) rfl (by simp [mm_crf, mm_cti, mm_ctl]) rfl dX11_init_147 ?_
  replace hK := mm_bd hK; obtain ⟨b150, e150, hK⟩ := hK
  subst e150
  replace hK := mm_bd hK; obtain ⟨h150, f150, hK⟩ := hK
  refine mm_callI C (pc := 150) (d1 := 3) (As := [va_rf (some b147)]) (st := [va_rf (some b150), va_rf (some b1)]) false ((S_X0_init (by omega)) f150) tT_X0_init rfl wd_803 wd_804 (by omega) (by decide) rfl (by simp [mm_crf, mm_cti, mm_ctl]) rfl dX11_init_150 ?_
  replace hK := mm_bd hK; obtain ⟨h153, e153, hK⟩ := hK
  refine mm_putr C (pc := 153) (k := 5) true (fun _ => ⟨rfl, rfl⟩) inGX11 tyX11 tyX11_ok nmX11 rfl (by decide) wd_850 rfl rfl dX11_init_153 e153 ?_
  refine mm_aload_n C (pc := 156) 0 dX11_init_156 rfl ?_
  replace hK := mm_b2s hK; obtain ⟨v157, h157, e157, hK⟩ := hK
  refine mm_new C (pc := 157) inGX0 tyX0 tyX0_ok rfl wd_201 wd_397 wd_150 (mm_dv (by decide)) (fun _ => rfl) dX11_init_157 e157 ?_
  refine mm_dup C (pc := 160) dX11_init_160 mm_crf ?_
  refine mm_aload_n C (pc := 161) 0 dX11_init_161 rfl ?_
  replace hK := mm_bd hK; obtain ⟨v162, e162, hK⟩ := hK
  refine mm_getr C (pc := 162) (k := 5) inGX11 rfl (by decide) wd_850 dX11_init_162 e162 ?_
  replace hK := mm_bd hK; obtain ⟨v165, e165, hK⟩ := hK
  refine mm_getr C (pc := 165) (k := 2) inGX0 rfl (by decide) wd_819 dX11_init_165 e165 ?_
  replace hK := mm_bd hK; obtain ⟨b168, e168, hK⟩ := hK
  subst e168
  replace hK := mm_bd hK; obtain ⟨h168, f168, hK⟩ := hK
  refine mm_callI C (pc := 168) (d1 := 3) (As := [va_rf v165]) (st := [va_rf (some b168), va_rf (some b1)]) false ((S_X0_init (by omega)) f168) tT_X0_init rfl wd_803 wd_804 (by omega) (by decide) rfl (by simp [mm_crf, mm_cti, mm_ctl]) rfl dX11_init_168 ?_
  replace hK := mm_bd hK; obtain ⟨h171, e171, hK⟩ := hK
  refine mm_putr C (pc := 171) (k := 7) true (fun _ => ⟨rfl, rfl⟩) inGX11 tyX11 tyX11_ok nmX11 rfl (by decide) wd_852 rfl rfl dX11_init_171 e171 ?_
  refine mm_iconst C (pc := 174) (v := (0 : Int32)) dX11_init_174 (by decide) ?_
  refine mm_istore_n C (pc := 175) (i := 1) (lv' := [(1, .int (0 : Int32)), (0, va_rf (some b1))]) dX11_init_175 rfl (by decide) (by simp [mm_crf]) ?_
  refine mm_sub C [1, 0] rfl ?_
  exact w_X11_init_176 hd C _ _ _ _ hK
def F_X11_putOnTape_47 (k3 : Option Nat → Int32 → Int32 → MH → Option MH) (l0 : Option Nat) (l1 : Int32) (l2 : Int32) (h : MH) : Option MH := k3 l0 l1 (l2 + ((-8) : Int32)) h
set_option maxRecDepth 20000 in
set_option maxHeartbeats 4000000 in
theorem w_X11_putOnTape_47 {d : Nat} {V : Nat → List (Nat × Value) → List Value → MH → Prop} {hz : MH} {k3 : Option Nat → Int32 → Int32 → MH → Option MH} (hd : 1 ≤ d) (C : mm_C d yX11_putOnTape cX11_putOnTape 3 none (.inr none) hz V) (q3 : ∀ (x0 : Option Nat) (x1 : Int32) (x2 : Int32) (h : MH), k3 x0 x1 x2 h = some hz → V 3 [(0, va_rf x0), (1, .int x1), (2, .int x2)] [] h) (l0 : Option Nat) (l1 : Int32) (l2 : Int32) (h : MH) (hK : F_X11_putOnTape_47 k3 l0 l1 l2 h = some hz) : V 47 [(0, va_rf l0), (1, .int l1), (2, .int l2)] [] h := by
  unfold F_X11_putOnTape_47 at hK
  refine mm_iinc C (pc := 47) (v := (l2 + ((-8) : Int32))) (lv' := [(2, .int (l2 + ((-8) : Int32))), (0, va_rf l0), (1, .int l1)]) 2 dX11_putOnTape_47 rfl rfl (by decide) rfl ?_
  refine mm_goto C (pc := 50) (tgt := 3) dX11_putOnTape_50 (by decide) ?_
  refine mm_sub C [1, 2, 0] rfl ?_
  exact q3 _ _ _ _ hK
def F_X11_putOnTape_3 : Nat → Option Nat → Int32 → Int32 → MH → Option MH
  | 0 => fun _ _ _ _ => none
  | n + 1 => fun l0 l1 l2 h => if l2 < 0 then (some h) else ((gI h l0 11 1).bind fun v8 => if v8 < 0 then (F_X11_putOnTape_47 (F_X11_putOnTape_3 n) l0 l1 l2 h) else ((gI h l0 11 1).bind fun v15 => if (900 : Int32) ≤ v15 then (F_X11_putOnTape_47 (F_X11_putOnTape_3 n) l0 l1 l2 h) else ((gR h l0 11 0).bind fun v25 => (gI h l0 11 1).bind fun v29 => (sI h v25 2 v29 ((l1 >>> (l2 &&& 31)).toInt8.toInt32).toInt8.toInt32).bind fun h36 => (gI h36 l0 11 1).bind fun v39 => (pI h36 l0 11 1 (v39 + (1 : Int32))).bind fun h44 => F_X11_putOnTape_47 (F_X11_putOnTape_3 n) l0 l1 l2 h44)))
set_option maxRecDepth 20000 in
set_option maxHeartbeats 4000000 in
theorem w_X11_putOnTape_3 {d : Nat} {V : Nat → List (Nat × Value) → List Value → MH → Prop} {hz : MH} (hd : 1 ≤ d) (C : mm_C d yX11_putOnTape cX11_putOnTape 3 none (.inr none) hz V) : ∀ (n : Nat) (l0 : Option Nat) (l1 : Int32) (l2 : Int32) (h : MH), F_X11_putOnTape_3 n l0 l1 l2 h = some hz → V 3 [(0, va_rf l0), (1, .int l1), (2, .int l2)] [] h := by
  intro n
  induction n with
  | zero => intro l0 l1 l2 h hK; cases hK
  | succ n ih =>
    intro l0 l1 l2 h hK
    replace hK : (if l2 < 0 then (some h) else ((gI h l0 11 1).bind fun v8 => if v8 < 0 then (F_X11_putOnTape_47 (F_X11_putOnTape_3 n) l0 l1 l2 h) else ((gI h l0 11 1).bind fun v15 => if (900 : Int32) ≤ v15 then (F_X11_putOnTape_47 (F_X11_putOnTape_3 n) l0 l1 l2 h) else ((gR h l0 11 0).bind fun v25 => (gI h l0 11 1).bind fun v29 => (sI h v25 2 v29 ((l1 >>> (l2 &&& 31)).toInt8.toInt32).toInt8.toInt32).bind fun h36 => (gI h36 l0 11 1).bind fun v39 => (pI h36 l0 11 1 (v39 + (1 : Int32))).bind fun h44 => F_X11_putOnTape_47 (F_X11_putOnTape_3 n) l0 l1 l2 h44)))) = some hz := hK
    refine mm_iload_n C (pc := 3) 2 dX11_putOnTape_3 rfl ?_
    refine mm_if_lt C (pc := 4) (tgt := 53) dX11_putOnTape_4 (by decide) (fun hc => ?_) (fun hc => ?_)
    · replace hK := mm_ip hc hK
      cases hK
      exact mm_vret C (pc := 53) rfl dX11_putOnTape_53 rfl rfl
    · replace hK := mm_in hc hK
      refine mm_aload_n C (pc := 7) 0 dX11_putOnTape_7 rfl ?_
      replace hK := mm_bd hK; obtain ⟨v8, e8, hK⟩ := hK
      refine mm_geti C (pc := 8) (k := 1) inGX11 rfl (by decide) wd_846 dX11_putOnTape_8 e8 ?_
      refine mm_if_lt C (pc := 11) (tgt := 47) dX11_putOnTape_11 (by decide) (fun hc => ?_) (fun hc => ?_)
      · replace hK := mm_ip hc hK
        exact w_X11_putOnTape_47 hd C (fun z0 z1 z2 z3 hK => ih z0 z1 z2 z3 hK) _ _ _ _ hK
      · replace hK := mm_in hc hK
        refine mm_aload_n C (pc := 14) 0 dX11_putOnTape_14 rfl ?_
        replace hK := mm_bd hK; obtain ⟨v15, e15, hK⟩ := hK
        refine mm_geti C (pc := 15) (k := 1) inGX11 rfl (by decide) wd_846 dX11_putOnTape_15 e15 ?_
        refine mm_sipush C (pc := 18) (v := (900 : Int32)) dX11_putOnTape_18 (by decide) ?_
        refine mm_icmp_ge C (pc := 21) (tgt := 47) dX11_putOnTape_21 (by decide) (fun hc => ?_) (fun hc => ?_)
        · replace hK := mm_ip hc hK
          exact w_X11_putOnTape_47 hd C (fun z0 z1 z2 z3 hK => ih z0 z1 z2 z3 hK) _ _ _ _ hK
        · replace hK := mm_in hc hK
          refine mm_aload_n C (pc := 24) 0 dX11_putOnTape_24 rfl ?_
          replace hK := mm_bd hK; obtain ⟨v25, e25, hK⟩ := hK
          refine mm_getr C (pc := 25) (k := 0) inGX11 rfl (by decide) wd_845 dX11_putOnTape_25 e25 ?_
          refine mm_aload_n C (pc := 28) 0 dX11_putOnTape_28 rfl ?_
          replace hK := mm_bd hK; obtain ⟨v29, e29, hK⟩ := hK
          refine mm_geti C (pc := 29) (k := 1) inGX11 rfl (by decide) wd_846 dX11_putOnTape_29 e29 ?_
          refine mm_iload_n C (pc := 32) 1 dX11_putOnTape_32 rfl ?_
          refine mm_iload_n C (pc := 33) 2 dX11_putOnTape_33 rfl ?_
          refine mm_ishr C (pc := 34) dX11_putOnTape_34 ?_
          refine mm_i2b C (pc := 35) dX11_putOnTape_35 ?_
          replace hK := mm_bd hK; obtain ⟨h36, e36, hK⟩ := hK
          refine mm_bast C (pc := 36) dX11_putOnTape_36 e36 ?_
          refine mm_aload_n C (pc := 37) 0 dX11_putOnTape_37 rfl ?_
          refine mm_dup C (pc := 38) dX11_putOnTape_38 mm_crf ?_
          replace hK := mm_bd hK; obtain ⟨v39, e39, hK⟩ := hK
          refine mm_geti C (pc := 39) (k := 1) inGX11 rfl (by decide) wd_846 dX11_putOnTape_39 e39 ?_
          refine mm_iconst C (pc := 42) (v := (1 : Int32)) dX11_putOnTape_42 (by decide) ?_
          refine mm_iadd C (pc := 43) dX11_putOnTape_43 ?_
          replace hK := mm_bd hK; obtain ⟨h44, e44, hK⟩ := hK
          refine mm_puti C (pc := 44) (k := 1) false (fun z => by cases z) inGX11 tyX11 tyX11_ok nmX11 rfl (by decide) wd_846 rfl rfl dX11_putOnTape_44 e44 ?_
          exact w_X11_putOnTape_47 hd C (fun z0 z1 z2 z3 hK => ih z0 z1 z2 z3 hK) _ _ _ _ hK
def F_X11_putOnTape (a0 : Option Nat) (a1 : Int32) (h : MH) : Option MH := F_X11_putOnTape_3 mm_N a0 a1 (24 : Int32) h
set_option maxRecDepth 20000 in
set_option maxHeartbeats 4000000 in
theorem S_X11_putOnTape {d : Nat} (hd : 1 ≤ d) {a0 : Option Nat} {a1 : Int32} {h : MH} {hz : MH} (hK : F_X11_putOnTape a0 a1 h = some hz) : mm_M yX11_putOnTape cX11_putOnTape 3 none d [va_rf a0, .int a1] h (.inr none) hz := by
  refine mm_ofV (by decide +kernel) (by simp [lg_sl, mm_crf, mm_cti, mm_ctl]) (fun V C => ?_)
  rw [show lv_args 0 [va_rf a0, .int a1] = [(0, va_rf a0), (1, .int a1)] by simp [lv_args, mm_crf, mm_cti, mm_ctl]]
  unfold F_X11_putOnTape at hK
  refine mm_bipush C (pc := 0) (v := (24 : Int32)) dX11_putOnTape_0 (by decide) ?_
  refine mm_istore_n C (pc := 2) (i := 2) (lv' := [(2, .int (24 : Int32)), (0, va_rf a0), (1, .int a1)]) dX11_putOnTape_2 rfl (by decide) rfl ?_
  refine mm_sub C [1, 2, 0] rfl ?_
  exact w_X11_putOnTape_3 hd C _ _ _ _ _ hK
theorem wd_901 : Cond.code yX11_putOnTape cX11_putOnTape 3 none ∈ lw_good := mm_wd 901 (by decide +kernel) (by decide +kernel)
theorem wd_142 : Cond.initialized RX11 ∈ lw_good := mm_wd 142 (by decide +kernel) (by decide +kernel)
theorem tT_X11_putOnTape : mm_T yX11_putOnTape cX11_putOnTape 3 none 1 := ⟨wd_901, wd_142, by decide +kernel, by decide +kernel, by decide +kernel, by decide +kernel⟩
theorem wd_898 : Cond.methodLink RX11 108 yX11_putOnTape ∈ lw_good := mm_wd 898 (by decide +kernel) (by decide +kernel)
theorem wd_900 : Cond.instanceMethod yX11_putOnTape ∈ lw_good := mm_wd 900 (by decide +kernel) (by decide +kernel)
theorem wd_3 : Cond.selects RX11 yX11_putOnTape yX11_putOnTape ∈ lw_good := mm_wd 3 (by decide +kernel) (by decide +kernel)
def F_X11_feed (a0 : Option Nat) (a1 : Int32) (a2 : Int32) (a3 : Int32) (a4 : Int32) (a5 : Int32) (h : MH) : Option (Int32 × MH) := (gI h a0 11 1).bind fun v1 => if (v1 + (20 : Int32)) ≤ (900 : Int32) then ((cV h a0 11 (F_X11_putOnTape a0 a1 h)).bind fun h17 => (cV h17 a0 11 (F_X11_putOnTape a0 a2 h17)).bind fun h22 => (cV h22 a0 11 (F_X11_putOnTape a0 a3 h22)).bind fun h27 => (cV h27 a0 11 (F_X11_putOnTape a0 a4 h27)).bind fun h33 => (cV h33 a0 11 (F_X11_putOnTape a0 a5 h33)).bind fun h39 => (gI h39 a0 11 1).bind fun v43 => some (v43, h39)) else (some (((-1) : Int32), h))
set_option maxRecDepth 20000 in
set_option maxHeartbeats 4000000 in
theorem S_X11_feed {d : Nat} (hd : 2 ≤ d) {a0 : Option Nat} {a1 : Int32} {a2 : Int32} {a3 : Int32} {a4 : Int32} {a5 : Int32} {h : MH} {r : Int32} {hz : MH} (hK : F_X11_feed a0 a1 a2 a3 a4 a5 h = some (r, hz)) : mm_M yX11_feed cX11_feed 6 (some .int) d [va_rf a0, .int a1, .int a2, .int a3, .int a4, .int a5] h (.inr (some (.int r))) hz := by
  refine mm_ofV (by decide +kernel) (by simp [lg_sl, mm_crf, mm_cti, mm_ctl]) (fun V C => ?_)
  rw [show lv_args 0 [va_rf a0, .int a1, .int a2, .int a3, .int a4, .int a5] = [(0, va_rf a0), (1, .int a1), (2, .int a2), (3, .int a3), (4, .int a4), (5, .int a5)] by simp [lv_args, mm_crf, mm_cti, mm_ctl]]
  unfold F_X11_feed at hK
  refine mm_aload_n C (pc := 0) 0 dX11_feed_0 rfl ?_
  replace hK := mm_bd hK; obtain ⟨v1, e1, hK⟩ := hK
  refine mm_geti C (pc := 1) (k := 1) inGX11 rfl (by decide) wd_846 dX11_feed_1 e1 ?_
  refine mm_bipush C (pc := 4) (v := (20 : Int32)) dX11_feed_4 (by decide) ?_
  refine mm_iadd C (pc := 6) dX11_feed_6 ?_
  refine mm_sipush C (pc := 7) (v := (900 : Int32)) dX11_feed_7 (by decide) ?_
  refine mm_icmp_le C (pc := 10) (tgt := 15) dX11_feed_10 (by decide) (fun hc => ?_) (fun hc => ?_)
  · replace hK := mm_ip hc hK
    refine mm_aload_n C (pc := 15) 0 dX11_feed_15 rfl ?_
    refine mm_iload_n C (pc := 16) 1 dX11_feed_16 rfl ?_
    replace hK := mm_bd hK; obtain ⟨h17, e17, hK⟩ := hK
    obtain ⟨o17, e17⟩ := cV_some e17
    refine mm_callV C (pc := 17) (d1 := 1) (As := [.int a1]) (st := []) (vk := none) ((S_X11_putOnTape (by omega)) e17) tT_X11_putOnTape o17 (Or.inr ⟨_, rfl, rfl⟩) wd_898 wd_900 wd_3 (by omega) (by decide) rfl (by simp [mm_crf, mm_cti, mm_ctl]) rfl dX11_feed_17 ?_
    show V _ _ [] _
    refine mm_aload_n C (pc := 20) 0 dX11_feed_20 rfl ?_
    refine mm_iload_n C (pc := 21) 2 dX11_feed_21 rfl ?_
    replace hK := mm_bd hK; obtain ⟨h22, e22, hK⟩ := hK
    obtain ⟨o22, e22⟩ := cV_some e22
    refine mm_callV C (pc := 22) (d1 := 1) (As := [.int a2]) (st := []) (vk := none) ((S_X11_putOnTape (by omega)) e22) tT_X11_putOnTape o22 (Or.inr ⟨_, rfl, rfl⟩) wd_898 wd_900 wd_3 (by omega) (by decide) rfl (by simp [mm_crf, mm_cti, mm_ctl]) rfl dX11_feed_22 ?_
    show V _ _ [] _
    refine mm_aload_n C (pc := 25) 0 dX11_feed_25 rfl ?_
    refine mm_iload_n C (pc := 26) 3 dX11_feed_26 rfl ?_
    replace hK := mm_bd hK; obtain ⟨h27, e27, hK⟩ := hK
    obtain ⟨o27, e27⟩ := cV_some e27
    refine mm_callV C (pc := 27) (d1 := 1) (As := [.int a3]) (st := []) (vk := none) ((S_X11_putOnTape (by omega)) e27) tT_X11_putOnTape o27 (Or.inr ⟨_, rfl, rfl⟩) wd_898 wd_900 wd_3 (by omega) (by decide) rfl (by simp [mm_crf, mm_cti, mm_ctl]) rfl dX11_feed_27 ?_
    show V _ _ [] _
    refine mm_aload_n C (pc := 30) 0 dX11_feed_30 rfl ?_
    refine mm_iload C (pc := 31) 4 dX11_feed_31 rfl ?_
    replace hK := mm_bd hK; obtain ⟨h33, e33, hK⟩ := hK
    obtain ⟨o33, e33⟩ := cV_some e33
    refine mm_callV C (pc := 33) (d1 := 1) (As := [.int a4]) (st := []) (vk := none) ((S_X11_putOnTape (by omega)) e33) tT_X11_putOnTape o33 (Or.inr ⟨_, rfl, rfl⟩) wd_898 wd_900 wd_3 (by omega) (by decide) rfl (by simp [mm_crf, mm_cti, mm_ctl]) rfl dX11_feed_33 ?_
    show V _ _ [] _
    refine mm_aload_n C (pc := 36) 0 dX11_feed_36 rfl ?_
    refine mm_iload C (pc := 37) 5 dX11_feed_37 rfl ?_
    replace hK := mm_bd hK; obtain ⟨h39, e39, hK⟩ := hK
    obtain ⟨o39, e39⟩ := cV_some e39
    refine mm_callV C (pc := 39) (d1 := 1) (As := [.int a5]) (st := []) (vk := none) ((S_X11_putOnTape (by omega)) e39) tT_X11_putOnTape o39 (Or.inr ⟨_, rfl, rfl⟩) wd_898 wd_900 wd_3 (by omega) (by decide) rfl (by simp [mm_crf, mm_cti, mm_ctl]) rfl dX11_feed_39 ?_
    show V _ _ [] _
    refine mm_aload_n C (pc := 42) 0 dX11_feed_42 rfl ?_
    replace hK := mm_bd hK; obtain ⟨v43, e43, hK⟩ := hK
    refine mm_geti C (pc := 43) (k := 1) inGX11 rfl (by decide) wd_846 dX11_feed_43 e43 ?_
    cases hK
    exact mm_iret C (pc := 46) rfl dX11_feed_46 rfl rfl
  · replace hK := mm_in hc hK
    refine mm_iconst C (pc := 13) (v := ((-1) : Int32)) dX11_feed_13 (by decide) ?_
    cases hK
    exact mm_iret C (pc := 14) rfl dX11_feed_14 rfl rfl
theorem wd_1166 : Cond.classLink RX11 264 "java/lang/IllegalArgumentException" ∈ lw_good := mm_wd 1166 (by decide +kernel) (by decide +kernel)
theorem wd_158 : Cond.initialized "java/lang/IllegalArgumentException" ∈ lw_good := mm_wd 158 (by decide +kernel) (by decide +kernel)
theorem tW_X11_264_268 : mm_Tw RX11 "java/lang/IllegalArgumentException" 264 268 := ⟨⟨by decide +kernel, wd_1166, wd_158⟩, mm_fg (by decide +kernel), mm_fn (by decide +kernel), by decide +kernel⟩
def F_X11_needWithin_10 (h : MH) : Option ((String ⊕ Unit) × MH) := (tH h).bind fun h10 => some (.inl "java/lang/IllegalArgumentException", h10)
set_option maxRecDepth 20000 in
set_option maxHeartbeats 4000000 in
theorem w_X11_needWithin_10 {d : Nat} {V : Nat → List (Nat × Value) → List Value → MH → Prop} {r : String ⊕ Unit} {hz : MH} (hd : 6 ≤ d) (C : mm_C d yX11_needWithin cX11_needWithin 3 none (mm_ov r) hz V) (h : MH) (hK : F_X11_needWithin_10  h = some (r, hz)) : V 10 [] [] h := by
  unfold F_X11_needWithin_10 at hK
  replace hK := mm_bd hK; obtain ⟨h10, e10, hK⟩ := hK
  cases hK
  exact mm_throwW C (pc := 10) (i := 1) tW_X11_264_268 (by rfl) dX11_needWithin_10 dX11_needWithin_13 dX11_needWithin_14 dX11_needWithin_17 dX11_needWithin_20 (by omega) (by simp [mm_crf, mm_cti, mm_ctl]) rfl e10
def F_X11_needWithin (a0 : Int32) (a1 : Int32) (a2 : Int32) (h : MH) : Option ((String ⊕ Unit) × MH) := if a0 < a1 then (F_X11_needWithin_10 h) else (if a0 ≤ a2 then (some (.inr (), h)) else (F_X11_needWithin_10 h))
set_option maxRecDepth 20000 in
set_option maxHeartbeats 4000000 in
theorem S_X11_needWithin {d : Nat} (hd : 6 ≤ d) {a0 : Int32} {a1 : Int32} {a2 : Int32} {h : MH} {r : String ⊕ Unit} {hz : MH} (hK : F_X11_needWithin a0 a1 a2 h = some (r, hz)) : mm_M yX11_needWithin cX11_needWithin 3 none d [.int a0, .int a1, .int a2] h (mm_ov r) hz := by
  refine mm_ofV (by decide +kernel) (by simp [lg_sl, mm_crf, mm_cti, mm_ctl]) (fun V C => ?_)
  rw [show lv_args 0 [.int a0, .int a1, .int a2] = [(0, .int a0), (1, .int a1), (2, .int a2)] by simp [lv_args, mm_crf, mm_cti, mm_ctl]]
  unfold F_X11_needWithin at hK
  refine mm_iload_n C (pc := 0) 0 dX11_needWithin_0 rfl ?_
  refine mm_iload_n C (pc := 1) 1 dX11_needWithin_1 rfl ?_
  refine mm_icmp_lt C (pc := 2) (tgt := 10) dX11_needWithin_2 (by decide) (fun hc => ?_) (fun hc => ?_)
  · replace hK := mm_ip hc hK
    refine mm_sub C [] rfl ?_
    exact w_X11_needWithin_10 hd C _ hK
  · replace hK := mm_in hc hK
    refine mm_iload_n C (pc := 5) 0 dX11_needWithin_5 rfl ?_
    refine mm_iload_n C (pc := 6) 2 dX11_needWithin_6 rfl ?_
    refine mm_icmp_le C (pc := 7) (tgt := 21) dX11_needWithin_7 (by decide) (fun hc => ?_) (fun hc => ?_)
    · replace hK := mm_ip hc hK
      cases hK
      exact mm_vret C (pc := 21) rfl dX11_needWithin_21 rfl rfl
    · replace hK := mm_in hc hK
      refine mm_sub C [] rfl ?_
      exact w_X11_needWithin_10 hd C _ hK
theorem wd_1177 : Cond.methodLink RX7 120 yJ7_fill_53178 ∈ lw_good := mm_wd 1177 (by decide +kernel) (by decide +kernel)
def F_X7_clear (a0 : Option Nat) (h : MH) : Option MH := (pI h a0 7 6 (2 : Int32)).bind fun h2 => (pI h2 a0 7 7 (0 : Int32)).bind fun h7 => (pI h7 a0 7 8 (0 : Int32)).bind fun h12 => (pI h12 a0 7 9 (0 : Int32)).bind fun h17 => (pI h17 a0 7 10 (0 : Int32)).bind fun h22 => (pI h22 a0 7 11 (0 : Int32)).bind fun h27 => (pI h27 a0 7 13 (0 : Int32)).bind fun h32 => (pI h32 a0 7 14 ((-1) : Int32)).bind fun h37 => (gR h37 a0 7 4).bind fun v41 => (F_J7_fill_53178 v41 (0 : Int32) h37).bind fun h45 => (gR h45 a0 7 5).bind fun v49 => (F_J7_fill_53178 v49 (0 : Int32) h45).bind fun h53 => some h53
set_option maxRecDepth 20000 in
set_option maxHeartbeats 4000000 in
theorem S_X7_clear {d : Nat} (hd : 2 ≤ d) {a0 : Option Nat} {h : MH} {hz : MH} (hK : F_X7_clear a0 h = some hz) : mm_M yX7_clear cX7_clear 1 none d [va_rf a0] h (.inr none) hz := by
  refine mm_ofV (by decide +kernel) (by simp [lg_sl, mm_crf, mm_cti, mm_ctl]) (fun V C => ?_)
  rw [show lv_args 0 [va_rf a0] = [(0, va_rf a0)] by simp [lv_args, mm_crf, mm_cti, mm_ctl]]
  unfold F_X7_clear at hK
  refine mm_aload_n C (pc := 0) 0 dX7_clear_0 rfl ?_
  refine mm_iconst C (pc := 1) (v := (2 : Int32)) dX7_clear_1 (by decide) ?_
  replace hK := mm_bd hK; obtain ⟨h2, e2, hK⟩ := hK
  refine mm_puti C (pc := 2) (k := 6) false (fun z => by cases z) inGX7 tyX7 tyX7_ok nmX7 rfl (by decide) wd_357 rfl rfl dX7_clear_2 e2 ?_
  refine mm_aload_n C (pc := 5) 0 dX7_clear_5 rfl ?_
  refine mm_iconst C (pc := 6) (v := (0 : Int32)) dX7_clear_6 (by decide) ?_
  replace hK := mm_bd hK; obtain ⟨h7, e7, hK⟩ := hK
  refine mm_puti C (pc := 7) (k := 7) false (fun z => by cases z) inGX7 tyX7 tyX7_ok nmX7 rfl (by decide) wd_358 rfl rfl dX7_clear_7 e7 ?_
  refine mm_aload_n C (pc := 10) 0 dX7_clear_10 rfl ?_
  refine mm_iconst C (pc := 11) (v := (0 : Int32)) dX7_clear_11 (by decide) ?_
  replace hK := mm_bd hK; obtain ⟨h12, e12, hK⟩ := hK
  refine mm_puti C (pc := 12) (k := 8) false (fun z => by cases z) inGX7 tyX7 tyX7_ok nmX7 rfl (by decide) wd_359 rfl rfl dX7_clear_12 e12 ?_
  refine mm_aload_n C (pc := 15) 0 dX7_clear_15 rfl ?_
  refine mm_iconst C (pc := 16) (v := (0 : Int32)) dX7_clear_16 (by decide) ?_
  replace hK := mm_bd hK; obtain ⟨h17, e17, hK⟩ := hK
  refine mm_puti C (pc := 17) (k := 9) false (fun z => by cases z) inGX7 tyX7 tyX7_ok nmX7 rfl (by decide) wd_360 rfl rfl dX7_clear_17 e17 ?_
  refine mm_aload_n C (pc := 20) 0 dX7_clear_20 rfl ?_
  refine mm_iconst C (pc := 21) (v := (0 : Int32)) dX7_clear_21 (by decide) ?_
  replace hK := mm_bd hK; obtain ⟨h22, e22, hK⟩ := hK
  refine mm_puti C (pc := 22) (k := 10) false (fun z => by cases z) inGX7 tyX7 tyX7_ok nmX7 rfl (by decide) wd_361 rfl rfl dX7_clear_22 e22 ?_
  refine mm_aload_n C (pc := 25) 0 dX7_clear_25 rfl ?_
  refine mm_iconst C (pc := 26) (v := (0 : Int32)) dX7_clear_26 (by decide) ?_
  replace hK := mm_bd hK; obtain ⟨h27, e27, hK⟩ := hK
  refine mm_puti C (pc := 27) (k := 11) false (fun z => by cases z) inGX7 tyX7 tyX7_ok nmX7 rfl (by decide) wd_362 rfl rfl dX7_clear_27 e27 ?_
  refine mm_aload_n C (pc := 30) 0 dX7_clear_30 rfl ?_
  refine mm_iconst C (pc := 31) (v := (0 : Int32)) dX7_clear_31 (by decide) ?_
  replace hK := mm_bd hK; obtain ⟨h32, e32, hK⟩ := hK
  refine mm_puti C (pc := 32) (k := 13) false (fun z => by cases z) inGX7 tyX7 tyX7_ok nmX7 rfl (by decide) wd_364 rfl rfl dX7_clear_32 e32 ?_
  refine mm_aload_n C (pc := 35) 0 dX7_clear_35 rfl ?_
  refine mm_iconst C (pc := 36) (v := ((-1) : Int32)) dX7_clear_36 (by decide) ?_
  replace hK := mm_bd hK; obtain ⟨h37, e37, hK⟩ := hK
  refine mm_puti C (pc := 37) (k := 14) false (fun z => by cases z) inGX7 tyX7 tyX7_ok nmX7 rfl (by decide) wd_365 rfl rfl dX7_clear_37 e37 ?_
  refine mm_aload_n C (pc := 40) 0 dX7_clear_40 rfl ?_
  replace hK := mm_bd hK; obtain ⟨v41, e41, hK⟩ := hK
  refine mm_getr C (pc := 41) (k := 4) inGX7 rfl (by decide) wd_355 dX7_clear_41 e41 ?_
  refine mm_iconst C (pc := 44) (v := (0 : Int32)) dX7_clear_44 (by decide) ?_
  replace hK := mm_bd hK; obtain ⟨h45, e45, hK⟩ := hK
  refine mm_callS C (pc := 45) (d1 := 1) (As := [va_rf v41, .int (0 : Int32)]) (st := []) (vk := none) ((S_J7_fill_53178 (by omega)) e45) tT_J7_fill_53178 wd_1177 wd_814 (by omega) (by decide) rfl (by simp [mm_crf, mm_cti, mm_ctl]) rfl dX7_clear_45 ?_
  show V _ _ [] _
  refine mm_aload_n C (pc := 48) 0 dX7_clear_48 rfl ?_
  replace hK := mm_bd hK; obtain ⟨v49, e49, hK⟩ := hK
  refine mm_getr C (pc := 49) (k := 5) inGX7 rfl (by decide) wd_356 dX7_clear_49 e49 ?_
  refine mm_iconst C (pc := 52) (v := (0 : Int32)) dX7_clear_52 (by decide) ?_
  replace hK := mm_bd hK; obtain ⟨h53, e53, hK⟩ := hK
  refine mm_callS C (pc := 53) (d1 := 1) (As := [va_rf v49, .int (0 : Int32)]) (st := []) (vk := none) ((S_J7_fill_53178 (by omega)) e53) tT_J7_fill_53178 wd_1177 wd_814 (by omega) (by decide) rfl (by simp [mm_crf, mm_cti, mm_ctl]) rfl dX7_clear_53 ?_
  show V _ _ [] _
  cases hK
  exact mm_vret C (pc := 56) rfl dX7_clear_56 rfl rfl
def F_X9_skipRun_50 (h : MH) : Option MH := some h
set_option maxRecDepth 20000 in
set_option maxHeartbeats 4000000 in
theorem w_X9_skipRun_50 {d : Nat} {V : Nat → List (Nat × Value) → List Value → MH → Prop} {hz : MH} (hd : 1 ≤ d) (C : mm_C d yX9_skipRun cX9_skipRun 3 none (.inr none) hz V) (h : MH) (hK : F_X9_skipRun_50  h = some hz) : V 50 [] [] h := by
  unfold F_X9_skipRun_50 at hK
  cases hK
  exact mm_vret C (pc := 50) rfl dX9_skipRun_50 rfl rfl
def F_X9_skipRun_0 : Nat → Option Nat → Int32 → Int32 → MH → Option MH
  | 0 => fun _ _ _ _ => none
  | n + 1 => fun l0 l1 l2 h => (gI h l0 9 2).bind fun v1 => (gI h l0 9 1).bind fun v5 => if v5 ≤ v1 then (F_X9_skipRun_50 h) else ((gR h l0 9 0).bind fun v12 => (gI h l0 9 2).bind fun v16 => (aI h v12 2 v16).bind fun v19 => if v19 < l1 then (F_X9_skipRun_50 h) else ((gR h l0 9 0).bind fun v25 => (gI h l0 9 2).bind fun v29 => (aI h v25 2 v29).bind fun v32 => if l2 < v32 then (F_X9_skipRun_50 h) else ((gI h l0 9 2).bind fun v39 => (pI h l0 9 2 (v39 + (1 : Int32))).bind fun h44 => F_X9_skipRun_0 n l0 l1 l2 h44)))
set_option maxRecDepth 20000 in
set_option maxHeartbeats 4000000 in
theorem w_X9_skipRun_0 {d : Nat} {V : Nat → List (Nat × Value) → List Value → MH → Prop} {hz : MH} (hd : 1 ≤ d) (C : mm_C d yX9_skipRun cX9_skipRun 3 none (.inr none) hz V) : ∀ (n : Nat) (l0 : Option Nat) (l1 : Int32) (l2 : Int32) (h : MH), F_X9_skipRun_0 n l0 l1 l2 h = some hz → V 0 [(0, va_rf l0), (1, .int l1), (2, .int l2)] [] h := by
  intro n
  induction n with
  | zero => intro l0 l1 l2 h hK; cases hK
  | succ n ih =>
    intro l0 l1 l2 h hK
    replace hK : ((gI h l0 9 2).bind fun v1 => (gI h l0 9 1).bind fun v5 => if v5 ≤ v1 then (F_X9_skipRun_50 h) else ((gR h l0 9 0).bind fun v12 => (gI h l0 9 2).bind fun v16 => (aI h v12 2 v16).bind fun v19 => if v19 < l1 then (F_X9_skipRun_50 h) else ((gR h l0 9 0).bind fun v25 => (gI h l0 9 2).bind fun v29 => (aI h v25 2 v29).bind fun v32 => if l2 < v32 then (F_X9_skipRun_50 h) else ((gI h l0 9 2).bind fun v39 => (pI h l0 9 2 (v39 + (1 : Int32))).bind fun h44 => F_X9_skipRun_0 n l0 l1 l2 h44)))) = some hz := hK
    refine mm_aload_n C (pc := 0) 0 dX9_skipRun_0 rfl ?_
    replace hK := mm_bd hK; obtain ⟨v1, e1, hK⟩ := hK
    refine mm_geti C (pc := 1) (k := 2) inGX9 rfl (by decide) wd_330 dX9_skipRun_1 e1 ?_
    refine mm_aload_n C (pc := 4) 0 dX9_skipRun_4 rfl ?_
    replace hK := mm_bd hK; obtain ⟨v5, e5, hK⟩ := hK
    refine mm_geti C (pc := 5) (k := 1) inGX9 rfl (by decide) wd_329 dX9_skipRun_5 e5 ?_
    refine mm_icmp_ge C (pc := 8) (tgt := 50) dX9_skipRun_8 (by decide) (fun hc => ?_) (fun hc => ?_)
    · replace hK := mm_ip hc hK
      refine mm_sub C [] rfl ?_
      exact w_X9_skipRun_50 hd C _ hK
    · replace hK := mm_in hc hK
      refine mm_aload_n C (pc := 11) 0 dX9_skipRun_11 rfl ?_
      replace hK := mm_bd hK; obtain ⟨v12, e12, hK⟩ := hK
      refine mm_getr C (pc := 12) (k := 0) inGX9 rfl (by decide) wd_328 dX9_skipRun_12 e12 ?_
      refine mm_aload_n C (pc := 15) 0 dX9_skipRun_15 rfl ?_
      replace hK := mm_bd hK; obtain ⟨v16, e16, hK⟩ := hK
      refine mm_geti C (pc := 16) (k := 2) inGX9 rfl (by decide) wd_330 dX9_skipRun_16 e16 ?_
      replace hK := mm_bd hK; obtain ⟨v19, e19, hK⟩ := hK
      refine mm_bald C (pc := 19) dX9_skipRun_19 e19 ?_
      refine mm_iload_n C (pc := 20) 1 dX9_skipRun_20 rfl ?_
      refine mm_icmp_lt C (pc := 21) (tgt := 50) dX9_skipRun_21 (by decide) (fun hc => ?_) (fun hc => ?_)
      · replace hK := mm_ip hc hK
        refine mm_sub C [] rfl ?_
        exact w_X9_skipRun_50 hd C _ hK
      · replace hK := mm_in hc hK
        refine mm_aload_n C (pc := 24) 0 dX9_skipRun_24 rfl ?_
        replace hK := mm_bd hK; obtain ⟨v25, e25, hK⟩ := hK
        refine mm_getr C (pc := 25) (k := 0) inGX9 rfl (by decide) wd_328 dX9_skipRun_25 e25 ?_
        refine mm_aload_n C (pc := 28) 0 dX9_skipRun_28 rfl ?_
        replace hK := mm_bd hK; obtain ⟨v29, e29, hK⟩ := hK
        refine mm_geti C (pc := 29) (k := 2) inGX9 rfl (by decide) wd_330 dX9_skipRun_29 e29 ?_
        replace hK := mm_bd hK; obtain ⟨v32, e32, hK⟩ := hK
        refine mm_bald C (pc := 32) dX9_skipRun_32 e32 ?_
        refine mm_iload_n C (pc := 33) 2 dX9_skipRun_33 rfl ?_
        refine mm_icmp_gt C (pc := 34) (tgt := 50) dX9_skipRun_34 (by decide) (fun hc => ?_) (fun hc => ?_)
        · replace hK := mm_ip hc hK
          refine mm_sub C [] rfl ?_
          exact w_X9_skipRun_50 hd C _ hK
        · replace hK := mm_in hc hK
          refine mm_aload_n C (pc := 37) 0 dX9_skipRun_37 rfl ?_
          refine mm_dup C (pc := 38) dX9_skipRun_38 mm_crf ?_
          replace hK := mm_bd hK; obtain ⟨v39, e39, hK⟩ := hK
          refine mm_geti C (pc := 39) (k := 2) inGX9 rfl (by decide) wd_330 dX9_skipRun_39 e39 ?_
          refine mm_iconst C (pc := 42) (v := (1 : Int32)) dX9_skipRun_42 (by decide) ?_
          refine mm_iadd C (pc := 43) dX9_skipRun_43 ?_
          replace hK := mm_bd hK; obtain ⟨h44, e44, hK⟩ := hK
          refine mm_puti C (pc := 44) (k := 2) false (fun z => by cases z) inGX9 tyX9 tyX9_ok nmX9 rfl (by decide) wd_330 rfl rfl dX9_skipRun_44 e44 ?_
          refine mm_goto C (pc := 47) (tgt := 0) dX9_skipRun_47 (by decide) ?_
          exact ih _ _ _ _ hK
def F_X9_skipRun (a0 : Option Nat) (a1 : Int32) (a2 : Int32) (h : MH) : Option MH := F_X9_skipRun_0 mm_N a0 a1 a2 h
set_option maxRecDepth 20000 in
set_option maxHeartbeats 4000000 in
theorem S_X9_skipRun {d : Nat} (hd : 1 ≤ d) {a0 : Option Nat} {a1 : Int32} {a2 : Int32} {h : MH} {hz : MH} (hK : F_X9_skipRun a0 a1 a2 h = some hz) : mm_M yX9_skipRun cX9_skipRun 3 none d [va_rf a0, .int a1, .int a2] h (.inr none) hz := by
  refine mm_ofV (by decide +kernel) (by simp [lg_sl, mm_crf, mm_cti, mm_ctl]) (fun V C => ?_)
  rw [show lv_args 0 [va_rf a0, .int a1, .int a2] = [(0, va_rf a0), (1, .int a1), (2, .int a2)] by simp [lv_args, mm_crf, mm_cti, mm_ctl]]
  unfold F_X9_skipRun at hK
  exact w_X9_skipRun_0 hd C _ _ _ _ _ hK
theorem dJ0_isLatin1_aae02_0 : decode cJ0_isLatin1_aae02 0 = .ok (.getstatic 38, 3) := by decide +kernel
theorem dJ0_isLatin1_aae02_3 : decode cJ0_isLatin1_aae02 3 = .ok (.ifCond .eq 14, 3) := by decide +kernel
theorem dJ0_isLatin1_aae02_6 : decode cJ0_isLatin1_aae02 6 = .ok (.aload_n 0, 1) := by decide +kernel
theorem dJ0_isLatin1_aae02_7 : decode cJ0_isLatin1_aae02 7 = .ok (.getfield 15, 3) := by decide +kernel
theorem dJ0_isLatin1_aae02_10 : decode cJ0_isLatin1_aae02 10 = .ok (.ifCond .ne 7, 3) := by decide +kernel
theorem dJ0_isLatin1_aae02_13 : decode cJ0_isLatin1_aae02 13 = .ok (.iconst 1, 1) := by decide +kernel
theorem dJ0_isLatin1_aae02_14 : decode cJ0_isLatin1_aae02 14 = .ok (.goto 4, 3) := by decide +kernel
theorem dJ0_isLatin1_aae02_17 : decode cJ0_isLatin1_aae02 17 = .ok (.iconst 0, 1) := by decide +kernel
theorem dJ0_isLatin1_aae02_18 : decode cJ0_isLatin1_aae02 18 = .ok (.ireturn, 1) := by decide +kernel
theorem wd_621 : Cond.fieldLink RJ0 38 "java/lang/String" "COMPACT_STRINGS" "Z" ∈ lw_good := mm_wd 621 (by decide +kernel) (by decide +kernel)
theorem wd_703 : Cond.fieldLink RJ0 15 "java/lang/String" "coder" "B" ∈ lw_good := mm_wd 703 (by decide +kernel) (by decide +kernel)
def F_J0_isLatin1_aae02_18 (s0 : Int32) (h : MH) : Option (Int32 × MH) := rZ s0 h
set_option maxRecDepth 20000 in
set_option maxHeartbeats 4000000 in
theorem w_J0_isLatin1_aae02_18 {d : Nat} {V : Nat → List (Nat × Value) → List Value → MH → Prop} {r : Int32} {hz : MH} (hd : 1 ≤ d) (C : mm_C d yJ0_isLatin1_aae02 cJ0_isLatin1_aae02 1 (some .boolean) (.inr (some (.int r))) hz V) (s0 : Int32) (h : MH) (hK : F_J0_isLatin1_aae02_18 s0 h = some (r, hz)) : V 18 [] [.int s0] h := by
  unfold F_J0_isLatin1_aae02_18 at hK
  replace hK := rZ_some hK; obtain ⟨hv18, hK⟩ := hK
  cases hK
  exact mm_zret C (pc := 18) rfl (mm_nrZ hv18) dJ0_isLatin1_aae02_18 rfl rfl
def F_J0_isLatin1_aae02_17 (h : MH) : Option (Int32 × MH) := F_J0_isLatin1_aae02_18 (0 : Int32) h
set_option maxRecDepth 20000 in
set_option maxHeartbeats 4000000 in
theorem w_J0_isLatin1_aae02_17 {d : Nat} {V : Nat → List (Nat × Value) → List Value → MH → Prop} {r : Int32} {hz : MH} (hd : 1 ≤ d) (C : mm_C d yJ0_isLatin1_aae02 cJ0_isLatin1_aae02 1 (some .boolean) (.inr (some (.int r))) hz V) (h : MH) (hK : F_J0_isLatin1_aae02_17  h = some (r, hz)) : V 17 [] [] h := by
  unfold F_J0_isLatin1_aae02_17 at hK
  refine mm_iconst C (pc := 17) (v := (0 : Int32)) dJ0_isLatin1_aae02_17 (by decide) ?_
  exact w_J0_isLatin1_aae02_18 hd C _ _ hK
def F_J0_isLatin1_aae02 (a0 : Option Nat) (h : MH) : Option (Int32 × MH) := if (1 : Int32) = 0 then (F_J0_isLatin1_aae02_17 h) else ((gI h a0 13 1).bind fun v7 => if v7 = 0 then (F_J0_isLatin1_aae02_18 (1 : Int32) h) else (F_J0_isLatin1_aae02_17 h))
set_option maxRecDepth 20000 in
set_option maxHeartbeats 4000000 in
theorem S_J0_isLatin1_aae02 {d : Nat} (hd : 1 ≤ d) {a0 : Option Nat} {h : MH} {r : Int32} {hz : MH} (hK : F_J0_isLatin1_aae02 a0 h = some (r, hz)) : mm_M yJ0_isLatin1_aae02 cJ0_isLatin1_aae02 1 (some .boolean) d [va_rf a0] h (.inr (some (.int r))) hz := by
  refine mm_ofV (by decide +kernel) (by simp [lg_sl, mm_crf, mm_cti, mm_ctl]) (fun V C => ?_)
  rw [show lv_args 0 [va_rf a0] = [(0, va_rf a0)] by simp [lv_args, mm_crf, mm_cti, mm_ctl]]
  unfold F_J0_isLatin1_aae02 at hK
  refine mm_getsC C (pc := 0) wd_621 dJ0_isLatin1_aae02_0 ?_
  refine mm_if_eq C (pc := 3) (tgt := 17) dJ0_isLatin1_aae02_3 (by decide) (fun hc => ?_) (fun hc => ?_)
  · replace hK := mm_ip hc hK
    refine mm_sub C [] rfl ?_
    exact w_J0_isLatin1_aae02_17 hd C _ hK
  · replace hK := mm_in hc hK
    refine mm_aload_n C (pc := 6) 0 dJ0_isLatin1_aae02_6 rfl ?_
    replace hK := mm_bd hK; obtain ⟨v7, e7, hK⟩ := hK
    refine mm_getSi C (pc := 7) wd_703 dJ0_isLatin1_aae02_7 e7 ?_
    refine mm_if_ne C (pc := 10) (tgt := 17) dJ0_isLatin1_aae02_10 (by decide) (fun hc => ?_) (fun hc => ?_)
    · replace hK := mm_in hc hK
      refine mm_sub C [] rfl ?_
      exact w_J0_isLatin1_aae02_17 hd C _ hK
    · replace hK := mm_ip hc hK
      refine mm_iconst C (pc := 13) (v := (1 : Int32)) dJ0_isLatin1_aae02_13 (by decide) ?_
      refine mm_goto C (pc := 14) (tgt := 18) dJ0_isLatin1_aae02_14 (by decide) ?_
      refine mm_sub C [] rfl ?_
      exact w_J0_isLatin1_aae02_18 hd C _ _ hK
