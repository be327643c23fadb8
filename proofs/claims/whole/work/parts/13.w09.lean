theorem wd_2378 : Cond.code yX12_asks cX12_asks 5 none ∈ lw_good := mm_wd 2378 (by decide +kernel) (by decide +kernel)
theorem tT_X12_asks : mm_T yX12_asks cX12_asks 5 none 4 := ⟨wd_2378, wd_170, by decide +kernel, by decide +kernel, by decide +kernel, by decide +kernel⟩
theorem wd_2375 : Cond.methodLink RX12 294 yX12_asks ∈ lw_good := mm_wd 2375 (by decide +kernel) (by decide +kernel)
theorem wd_2377 : Cond.instanceMethod yX12_asks ∈ lw_good := mm_wd 2377 (by decide +kernel) (by decide +kernel)
theorem wd_96 : Cond.selects RX12 yX12_asks yX12_asks ∈ lw_good := mm_wd 96 (by decide +kernel) (by decide +kernel)
theorem wd_2351 : Cond.code yX12_lawOf cX12_lawOf 6 (some .int) ∈ lw_good := mm_wd 2351 (by decide +kernel) (by decide +kernel)
theorem tT_X12_lawOf : mm_T yX12_lawOf cX12_lawOf 6 (some .int) 2 := ⟨wd_2351, wd_170, by decide +kernel, by decide +kernel, by decide +kernel, by decide +kernel⟩
theorem wd_2348 : Cond.methodLink RX12 298 yX12_lawOf ∈ lw_good := mm_wd 2348 (by decide +kernel) (by decide +kernel)
theorem wd_2350 : Cond.instanceMethod yX12_lawOf ∈ lw_good := mm_wd 2350 (by decide +kernel) (by decide +kernel)
theorem wd_94 : Cond.selects RX12 yX12_lawOf yX12_lawOf ∈ lw_good := mm_wd 94 (by decide +kernel) (by decide +kernel)
def F_X12_comesBy_85 (s0 : Int32) (h : MH) : Option (Int32 × MH) := some (s0, h)
set_option maxRecDepth 20000 in
set_option maxHeartbeats 4000000 in
theorem w_X12_comesBy_85 {d : Nat} {V : Nat → List (Nat × Value) → List Value → MH → Prop} {r : Int32} {hz : MH} (hd : 4 ≤ d) (C : mm_C d yX12_comesBy cX12_comesBy 4 (some .int) (.inr (some (.int r))) hz V) (s0 : Int32) (h : MH) (hK : F_X12_comesBy_85 s0 h = some (r, hz)) : V 85 [] [.int s0] h := by
  unfold F_X12_comesBy_85 at hK
  cases hK
  exact mm_iret C (pc := 85) rfl dX12_comesBy_85 rfl rfl
def F_X12_comesBy (a0 : Option Nat) (a1 : Int32) (a2 : Int32) (h : MH) : Option (Int32 × MH) := (gR h a0 12 0).bind fun v1 => (aI h v1 0 (3 : Int32)).bind fun v5 => if v5 = 0 then ((gR h a0 12 0).bind fun v10 => (aI h v10 0 ((61 : Int32) + a1)).bind fun v17 => some (v17, h)) else ((gR h a0 12 0).bind fun v21 => (aI h v21 0 ((51 : Int32) + a1)).bind fun v28 => (gR h a0 12 0).bind fun v30 => (aI h v30 0 ((61 : Int32) + a1)).bind fun v37 => (cV h a0 12 (F_X12_asks a0 v28 v37 a2 a1 h)).bind fun h40 => (gR h40 a0 12 0).bind fun v44 => (aI h40 v44 0 ((61 : Int32) + a1)).bind fun v51 => mm_b2 (cV h40 a0 12 (F_X12_lawOf a0 (3 : Int32) (501 : Int32) h40)) fun v57 h57 => (gR h57 a0 12 0).bind fun v62 => (aI h57 v62 0 (1 : Int32)).bind fun v66 => if v66 = 0 then none else if 0 ≤ ((v51 + v57) - (v51 + v57) / v66 * v66) then (F_X12_comesBy_85 ((v51 + v57) - (v51 + v57) / v66 * v66) h57) else ((gR h57 a0 12 0).bind fun v75 => (aI h57 v75 0 (1 : Int32)).bind fun v79 => F_X12_comesBy_85 (((v51 + v57) - (v51 + v57) / v66 * v66) + v79) h57))
set_option maxRecDepth 20000 in
set_option maxHeartbeats 4000000 in
theorem S_X12_comesBy {d : Nat} (hd : 4 ≤ d) {a0 : Option Nat} {a1 : Int32} {a2 : Int32} {h : MH} {r : Int32} {hz : MH} (hK : F_X12_comesBy a0 a1 a2 h = some (r, hz)) : mm_M yX12_comesBy cX12_comesBy 4 (some .int) d [va_rf a0, .int a1, .int a2] h (.inr (some (.int r))) hz := by
  refine mm_ofV (by decide +kernel) (by simp [lg_sl, mm_crf, mm_cti, mm_ctl]) (fun V C => ?_)
  rw [show lv_args 0 [va_rf a0, .int a1, .int a2] = [(0, va_rf a0), (1, .int a1), (2, .int a2)] by simp [lv_args, mm_crf, mm_cti, mm_ctl]]
  unfold F_X12_comesBy at hK
  refine mm_aload_n C (pc := 0) 0 dX12_comesBy_0 rfl ?_
  replace hK := mm_bd hK; obtain ⟨v1, e1, hK⟩ := hK
  refine mm_getr C (pc := 1) (k := 0) inGX12 rfl (by decide) wd_1999 dX12_comesBy_1 e1 ?_
  refine mm_iconst C (pc := 4) (v := (3 : Int32)) dX12_comesBy_4 (by decide) ?_
  replace hK := mm_bd hK; obtain ⟨v5, e5, hK⟩ := hK
  refine mm_iald C (pc := 5) dX12_comesBy_5 e5 ?_
  refine mm_if_ne C (pc := 6) (tgt := 19) dX12_comesBy_6 (by decide) (fun hc => ?_) (fun hc => ?_)
  · replace hK := mm_in hc hK
    refine mm_aload_n C (pc := 19) 0 dX12_comesBy_19 rfl ?_
    refine mm_aload_n C (pc := 20) 0 dX12_comesBy_20 rfl ?_
    replace hK := mm_bd hK; obtain ⟨v21, e21, hK⟩ := hK
    refine mm_getr C (pc := 21) (k := 0) inGX12 rfl (by decide) wd_1999 dX12_comesBy_21 e21 ?_
    refine mm_bipush C (pc := 24) (v := (51 : Int32)) dX12_comesBy_24 (by decide) ?_
    refine mm_iload_n C (pc := 26) 1 dX12_comesBy_26 rfl ?_
    refine mm_iadd C (pc := 27) dX12_comesBy_27 ?_
    replace hK := mm_bd hK; obtain ⟨v28, e28, hK⟩ := hK
    refine mm_iald C (pc := 28) dX12_comesBy_28 e28 ?_
    refine mm_aload_n C (pc := 29) 0 dX12_comesBy_29 rfl ?_
    replace hK := mm_bd hK; obtain ⟨v30, e30, hK⟩ := hK
    refine mm_getr C (pc := 30) (k := 0) inGX12 rfl (by decide) wd_1999 dX12_comesBy_30 e30 ?_
    refine mm_bipush C (pc := 33) (v := (61 : Int32)) dX12_comesBy_33 (by decide) ?_
    refine mm_iload_n C (pc := 35) 1 dX12_comesBy_35 rfl ?_
    refine mm_iadd C (pc := 36) dX12_comesBy_36 ?_
    replace hK := mm_bd hK; obtain ⟨v37, e37, hK⟩ := hK
    refine mm_iald C (pc := 37) dX12_comesBy_37 e37 ?_
    refine mm_iload_n C (pc := 38) 2 dX12_comesBy_38 rfl ?_
    refine mm_iload_n C (pc := 39) 1 dX12_comesBy_39 rfl ?_
    replace hK := mm_bd hK; obtain ⟨h40, e40, hK⟩ := hK
    obtain ⟨o40, e40⟩ := cV_some e40
    refine mm_callV C (pc := 40) (d1 := 1) (As := [.int v28, .int v37, .int a2, .int a1]) (st := []) (vk := none) ((S_X12_asks (by omega)) e40) tT_X12_asks o40 (Or.inr ⟨_, rfl, rfl⟩) wd_2375 wd_2377 wd_96 (by omega) (by decide) rfl (by simp [mm_crf, mm_cti, mm_ctl]) rfl dX12_comesBy_40 ?_
    show V _ _ [] _
    refine mm_aload_n C (pc := 43) 0 dX12_comesBy_43 rfl ?_
    replace hK := mm_bd hK; obtain ⟨v44, e44, hK⟩ := hK
    refine mm_getr C (pc := 44) (k := 0) inGX12 rfl (by decide) wd_1999 dX12_comesBy_44 e44 ?_
    refine mm_bipush C (pc := 47) (v := (61 : Int32)) dX12_comesBy_47 (by decide) ?_
    refine mm_iload_n C (pc := 49) 1 dX12_comesBy_49 rfl ?_
    refine mm_iadd C (pc := 50) dX12_comesBy_50 ?_
    replace hK := mm_bd hK; obtain ⟨v51, e51, hK⟩ := hK
    refine mm_iald C (pc := 51) dX12_comesBy_51 e51 ?_
    refine mm_aload_n C (pc := 52) 0 dX12_comesBy_52 rfl ?_
    refine mm_iconst C (pc := 53) (v := (3 : Int32)) dX12_comesBy_53 (by decide) ?_
    refine mm_sipush C (pc := 54) (v := (501 : Int32)) dX12_comesBy_54 (by decide) ?_
    replace hK := mm_b2s hK; obtain ⟨v57, h57, e57, hK⟩ := hK
    obtain ⟨o57, e57⟩ := cV_some e57
    refine mm_callV C (pc := 57) (d1 := 3) (As := [.int (3 : Int32), .int (501 : Int32)]) (st := [.int v51]) (vk := (some (.int v57))) ((S_X12_lawOf (by omega)) e57) tT_X12_lawOf o57 (Or.inr ⟨_, rfl, rfl⟩) wd_2348 wd_2350 wd_94 (by omega) (by decide) rfl (by simp [mm_crf, mm_cti, mm_ctl]) rfl dX12_comesBy_57 ?_
    show V _ _ (.int v57 :: _) _
    refine mm_iadd C (pc := 60) dX12_comesBy_60 ?_
    refine mm_aload_n C (pc := 61) 0 dX12_comesBy_61 rfl ?_
    replace hK := mm_bd hK; obtain ⟨v62, e62, hK⟩ := hK
    refine mm_getr C (pc := 62) (k := 0) inGX12 rfl (by decide) wd_1999 dX12_comesBy_62 e62 ?_
    refine mm_iconst C (pc := 65) (v := (1 : Int32)) dX12_comesBy_65 (by decide) ?_
    replace hK := mm_bd hK; obtain ⟨v66, e66, hK⟩ := hK
    refine mm_iald C (pc := 66) dX12_comesBy_66 e66 ?_
    by_cases hz67 : v66 = 0
    · rw [if_pos hz67] at hK; cases hK
    replace hK := mm_in hz67 hK
    refine mm_irem C (pc := 67) dX12_comesBy_67 hz67 ?_
    refine mm_istore_n C (pc := 68) (i := 3) (lv' := [(3, .int ((v51 + v57) - (v51 + v57) / v66 * v66)), (0, va_rf a0), (1, .int a1), (2, .int a2)]) dX12_comesBy_68 rfl (by decide) rfl ?_
    refine mm_iload_n C (pc := 69) 0 dX12_comesBy_69 rfl ?_
    refine mm_if_ge C (pc := 70) (tgt := 84) dX12_comesBy_70 (by decide) (fun hc => ?_) (fun hc => ?_)
    · replace hK := mm_ip hc hK
      refine mm_iload_n C (pc := 84) 0 dX12_comesBy_84 rfl ?_
      refine mm_sub C [] rfl ?_
      exact w_X12_comesBy_85 hd C _ _ hK
    · replace hK := mm_in hc hK
      refine mm_iload_n C (pc := 73) 0 dX12_comesBy_73 rfl ?_
      refine mm_aload_n C (pc := 74) 1 dX12_comesBy_74 rfl ?_
      replace hK := mm_bd hK; obtain ⟨v75, e75, hK⟩ := hK
      refine mm_getr C (pc := 75) (k := 0) inGX12 rfl (by decide) wd_1999 dX12_comesBy_75 e75 ?_
      refine mm_iconst C (pc := 78) (v := (1 : Int32)) dX12_comesBy_78 (by decide) ?_
      replace hK := mm_bd hK; obtain ⟨v79, e79, hK⟩ := hK
      refine mm_iald C (pc := 79) dX12_comesBy_79 e79 ?_
      refine mm_iadd C (pc := 80) dX12_comesBy_80 ?_
      refine mm_goto C (pc := 81) (tgt := 85) dX12_comesBy_81 (by decide) ?_
      refine mm_sub C [] rfl ?_
      exact w_X12_comesBy_85 hd C _ _ hK
  · replace hK := mm_ip hc hK
    refine mm_aload_n C (pc := 9) 0 dX12_comesBy_9 rfl ?_
    replace hK := mm_bd hK; obtain ⟨v10, e10, hK⟩ := hK
    refine mm_getr C (pc := 10) (k := 0) inGX12 rfl (by decide) wd_1999 dX12_comesBy_10 e10 ?_
    refine mm_bipush C (pc := 13) (v := (61 : Int32)) dX12_comesBy_13 (by decide) ?_
    refine mm_iload_n C (pc := 15) 1 dX12_comesBy_15 rfl ?_
    refine mm_iadd C (pc := 16) dX12_comesBy_16 ?_
    replace hK := mm_bd hK; obtain ⟨v17, e17, hK⟩ := hK
    refine mm_iald C (pc := 17) dX12_comesBy_17 e17 ?_
    cases hK
    exact mm_iret C (pc := 18) rfl dX12_comesBy_18 rfl rfl
def F_X12_likesHow (a0 : Option Nat) (a1 : Int32) (a2 : Int32) (h : MH) : Option (Int32 × MH) := (gR h a0 12 0).bind fun v1 => (aI h v1 0 (4 : Int32)).bind fun v5 => if v5 = 0 then (some ((0 : Int32), h)) else ((gR h a0 12 20).bind fun v12 => (sI h v12 0 (0 : Int32) a1).bind fun h17 => (gR h17 a0 12 20).bind fun v19 => (sI h17 v19 0 (1 : Int32) a2).bind fun h24 => mm_b2 (cV h24 a0 12 (F_X12_lawOf a0 (4 : Int32) (1401 : Int32) h24)) fun v30 h30 => some (v30, h30))
set_option maxRecDepth 20000 in
set_option maxHeartbeats 4000000 in
theorem S_X12_likesHow {d : Nat} (hd : 4 ≤ d) {a0 : Option Nat} {a1 : Int32} {a2 : Int32} {h : MH} {r : Int32} {hz : MH} (hK : F_X12_likesHow a0 a1 a2 h = some (r, hz)) : mm_M yX12_likesHow cX12_likesHow 3 (some .int) d [va_rf a0, .int a1, .int a2] h (.inr (some (.int r))) hz := by
  refine mm_ofV (by decide +kernel) (by simp [lg_sl, mm_crf, mm_cti, mm_ctl]) (fun V C => ?_)
  rw [show lv_args 0 [va_rf a0, .int a1, .int a2] = [(0, va_rf a0), (1, .int a1), (2, .int a2)] by simp [lv_args, mm_crf, mm_cti, mm_ctl]]
  unfold F_X12_likesHow at hK
  refine mm_aload_n C (pc := 0) 0 dX12_likesHow_0 rfl ?_
  replace hK := mm_bd hK; obtain ⟨v1, e1, hK⟩ := hK
  refine mm_getr C (pc := 1) (k := 0) inGX12 rfl (by decide) wd_1999 dX12_likesHow_1 e1 ?_
  refine mm_iconst C (pc := 4) (v := (4 : Int32)) dX12_likesHow_4 (by decide) ?_
  replace hK := mm_bd hK; obtain ⟨v5, e5, hK⟩ := hK
  refine mm_iald C (pc := 5) dX12_likesHow_5 e5 ?_
  refine mm_if_ne C (pc := 6) (tgt := 11) dX12_likesHow_6 (by decide) (fun hc => ?_) (fun hc => ?_)
  · replace hK := mm_in hc hK
    refine mm_aload_n C (pc := 11) 0 dX12_likesHow_11 rfl ?_
    replace hK := mm_bd hK; obtain ⟨v12, e12, hK⟩ := hK
    refine mm_getr C (pc := 12) (k := 20) inGX12 rfl (by decide) wd_2019 dX12_likesHow_12 e12 ?_
    refine mm_iconst C (pc := 15) (v := (0 : Int32)) dX12_likesHow_15 (by decide) ?_
    refine mm_iload_n C (pc := 16) 1 dX12_likesHow_16 rfl ?_
    replace hK := mm_bd hK; obtain ⟨h17, e17, hK⟩ := hK
    refine mm_iast C (pc := 17) dX12_likesHow_17 e17 ?_
    refine mm_aload_n C (pc := 18) 0 dX12_likesHow_18 rfl ?_
    replace hK := mm_bd hK; obtain ⟨v19, e19, hK⟩ := hK
    refine mm_getr C (pc := 19) (k := 20) inGX12 rfl (by decide) wd_2019 dX12_likesHow_19 e19 ?_
    refine mm_iconst C (pc := 22) (v := (1 : Int32)) dX12_likesHow_22 (by decide) ?_
    refine mm_iload_n C (pc := 23) 2 dX12_likesHow_23 rfl ?_
    replace hK := mm_bd hK; obtain ⟨h24, e24, hK⟩ := hK
    refine mm_iast C (pc := 24) dX12_likesHow_24 e24 ?_
    refine mm_aload_n C (pc := 25) 0 dX12_likesHow_25 rfl ?_
    refine mm_iconst C (pc := 26) (v := (4 : Int32)) dX12_likesHow_26 (by decide) ?_
    refine mm_sipush C (pc := 27) (v := (1401 : Int32)) dX12_likesHow_27 (by decide) ?_
    replace hK := mm_b2s hK; obtain ⟨v30, h30, e30, hK⟩ := hK
    obtain ⟨o30, e30⟩ := cV_some e30
    refine mm_callV C (pc := 30) (d1 := 3) (As := [.int (4 : Int32), .int (1401 : Int32)]) (st := []) (vk := (some (.int v30))) ((S_X12_lawOf (by omega)) e30) tT_X12_lawOf o30 (Or.inr ⟨_, rfl, rfl⟩) wd_2348 wd_2350 wd_94 (by omega) (by decide) rfl (by simp [mm_crf, mm_cti, mm_ctl]) rfl dX12_likesHow_30 ?_
    show V _ _ (.int v30 :: _) _
    cases hK
    exact mm_iret C (pc := 33) rfl dX12_likesHow_33 rfl rfl
  · replace hK := mm_ip hc hK
    refine mm_iconst C (pc := 9) (v := (0 : Int32)) dX12_likesHow_9 (by decide) ?_
    cases hK
    exact mm_iret C (pc := 10) rfl dX12_likesHow_10 rfl rfl
theorem wd_2347 : Cond.code yX12_likesHow cX12_likesHow 3 (some .int) ∈ lw_good := mm_wd 2347 (by decide +kernel) (by decide +kernel)
theorem tT_X12_likesHow : mm_T yX12_likesHow cX12_likesHow 3 (some .int) 2 := ⟨wd_2347, wd_170, by decide +kernel, by decide +kernel, by decide +kernel, by decide +kernel⟩
theorem wd_2344 : Cond.methodLink RX12 301 yX12_likesHow ∈ lw_good := mm_wd 2344 (by decide +kernel) (by decide +kernel)
theorem wd_2346 : Cond.instanceMethod yX12_likesHow ∈ lw_good := mm_wd 2346 (by decide +kernel) (by decide +kernel)
theorem wd_93 : Cond.selects RX12 yX12_likesHow yX12_likesHow ∈ lw_good := mm_wd 93 (by decide +kernel) (by decide +kernel)
def F_X12_marriesBy_96 (s0 : Int32) (h : MH) : Option (Int32 × MH) := rZ s0 h
set_option maxRecDepth 20000 in
set_option maxHeartbeats 4000000 in
theorem w_X12_marriesBy_96 {d : Nat} {V : Nat → List (Nat × Value) → List Value → MH → Prop} {r : Int32} {hz : MH} (hd : 5 ≤ d) (C : mm_C d yX12_marriesBy cX12_marriesBy 5 (some .boolean) (.inr (some (.int r))) hz V) (s0 : Int32) (h : MH) (hK : F_X12_marriesBy_96 s0 h = some (r, hz)) : V 96 [] [.int s0] h := by
  unfold F_X12_marriesBy_96 at hK
  replace hK := rZ_some hK; obtain ⟨hv96, hK⟩ := hK
  cases hK
  exact mm_zret C (pc := 96) rfl (mm_nrZ hv96) dX12_marriesBy_96 rfl rfl
def F_X12_marriesBy (a0 : Option Nat) (a1 : Int32) (a2 : Int32) (h : MH) : Option (Int32 × MH) := (gR h a0 12 0).bind fun v1 => (aI h v1 0 (5 : Int32)).bind fun v5 => if v5 = 0 then (rZ (0 : Int32) h) else ((gR h a0 12 0).bind fun v13 => (aI h v13 0 ((51 : Int32) + a1)).bind fun v20 => mm_b2 (cV h a0 12 (F_X12_likesHow a0 v20 a2 h)) fun v22 h22 => (gR h22 a0 12 0).bind fun v29 => (aI h22 v29 0 ((51 : Int32) + a1)).bind fun v36 => mm_b2 (cV h22 a0 12 (F_X12_likesHow a0 a2 v36 h22)) fun v37 h37 => (gR h37 a0 12 0).bind fun v44 => (aI h37 v44 0 ((51 : Int32) + a1)).bind fun v51 => (gR h37 a0 12 0).bind fun v54 => (aI h37 v54 0 (47 : Int32)).bind fun v59 => (cV h37 a0 12 (F_X12_asks a0 v51 a2 v59 a1 h37)).bind fun h61 => (gR h61 a0 12 20).bind fun v65 => (sI h61 v65 0 (4 : Int32) v22).bind fun h70 => (gR h70 a0 12 20).bind fun v72 => (sI h70 v72 0 (5 : Int32) v37).bind fun h78 => mm_b2 (cV h78 a0 12 (F_X12_lawOf a0 (5 : Int32) (2301 : Int32) h78)) fun v84 h84 => if v84 = (1 : Int32) then (F_X12_marriesBy_96 (1 : Int32) h84) else (F_X12_marriesBy_96 (0 : Int32) h84))
set_option maxRecDepth 20000 in
set_option maxHeartbeats 4000000 in
theorem S_X12_marriesBy {d : Nat} (hd : 5 ≤ d) {a0 : Option Nat} {a1 : Int32} {a2 : Int32} {h : MH} {r : Int32} {hz : MH} (hK : F_X12_marriesBy a0 a1 a2 h = some (r, hz)) : mm_M yX12_marriesBy cX12_marriesBy 5 (some .boolean) d [va_rf a0, .int a1, .int a2] h (.inr (some (.int r))) hz := by
  refine mm_ofV (by decide +kernel) (by simp [lg_sl, mm_crf, mm_cti, mm_ctl]) (fun V C => ?_)
  rw [show lv_args 0 [va_rf a0, .int a1, .int a2] = [(0, va_rf a0), (1, .int a1), (2, .int a2)] by simp [lv_args, mm_crf, mm_cti, mm_ctl]]
  unfold F_X12_marriesBy at hK
  refine mm_aload_n C (pc := 0) 0 dX12_marriesBy_0 rfl ?_
  replace hK := mm_bd hK; obtain ⟨v1, e1, hK⟩ := hK
  refine mm_getr C (pc := 1) (k := 0) inGX12 rfl (by decide) wd_1999 dX12_marriesBy_1 e1 ?_
  refine mm_iconst C (pc := 4) (v := (5 : Int32)) dX12_marriesBy_4 (by decide) ?_
  replace hK := mm_bd hK; obtain ⟨v5, e5, hK⟩ := hK
  refine mm_iald C (pc := 5) dX12_marriesBy_5 e5 ?_
  refine mm_if_ne C (pc := 6) (tgt := 11) dX12_marriesBy_6 (by decide) (fun hc => ?_) (fun hc => ?_)
  · replace hK := mm_in hc hK
    refine mm_aload_n C (pc := 11) 0 dX12_marriesBy_11 rfl ?_
    refine mm_aload_n C (pc := 12) 0 dX12_marriesBy_12 rfl ?_
    replace hK := mm_bd hK; obtain ⟨v13, e13, hK⟩ := hK
    refine mm_getr C (pc := 13) (k := 0) inGX12 rfl (by decide) wd_1999 dX12_marriesBy_13 e13 ?_
    refine mm_bipush C (pc := 16) (v := (51 : Int32)) dX12_marriesBy_16 (by decide) ?_
    refine mm_iload_n C (pc := 18) 1 dX12_marriesBy_18 rfl ?_
    refine mm_iadd C (pc := 19) dX12_marriesBy_19 ?_
    replace hK := mm_bd hK; obtain ⟨v20, e20, hK⟩ := hK
    refine mm_iald C (pc := 20) dX12_marriesBy_20 e20 ?_
    refine mm_iload_n C (pc := 21) 2 dX12_marriesBy_21 rfl ?_
    replace hK := mm_b2s hK; obtain ⟨v22, h22, e22, hK⟩ := hK
    obtain ⟨o22, e22⟩ := cV_some e22
    refine mm_callV C (pc := 22) (d1 := 4) (As := [.int v20, .int a2]) (st := []) (vk := (some (.int v22))) ((S_X12_likesHow (by omega)) e22) tT_X12_likesHow o22 (Or.inr ⟨_, rfl, rfl⟩) wd_2344 wd_2346 wd_93 (by omega) (by decide) rfl (by simp [mm_crf, mm_cti, mm_ctl]) rfl dX12_marriesBy_22 ?_
    show V _ _ (.int v22 :: _) _
    refine mm_istore_n C (pc := 25) (i := 3) (lv' := [(3, .int v22), (0, va_rf a0), (1, .int a1), (2, .int a2)]) dX12_marriesBy_25 rfl (by decide) rfl ?_
    refine mm_aload_n C (pc := 26) 1 dX12_marriesBy_26 rfl ?_
    refine mm_iload_n C (pc := 27) 3 dX12_marriesBy_27 rfl ?_
    refine mm_aload_n C (pc := 28) 1 dX12_marriesBy_28 rfl ?_
    replace hK := mm_bd hK; obtain ⟨v29, e29, hK⟩ := hK
    refine mm_getr C (pc := 29) (k := 0) inGX12 rfl (by decide) wd_1999 dX12_marriesBy_29 e29 ?_
    refine mm_bipush C (pc := 32) (v := (51 : Int32)) dX12_marriesBy_32 (by decide) ?_
    refine mm_iload_n C (pc := 34) 2 dX12_marriesBy_34 rfl ?_
    refine mm_iadd C (pc := 35) dX12_marriesBy_35 ?_
    replace hK := mm_bd hK; obtain ⟨v36, e36, hK⟩ := hK
    refine mm_iald C (pc := 36) dX12_marriesBy_36 e36 ?_
    replace hK := mm_b2s hK; obtain ⟨v37, h37, e37, hK⟩ := hK
    obtain ⟨o37, e37⟩ := cV_some e37
    refine mm_callV C (pc := 37) (d1 := 4) (As := [.int a2, .int v36]) (st := []) (vk := (some (.int v37))) ((S_X12_likesHow (by omega)) e37) tT_X12_likesHow o37 (Or.inr ⟨_, rfl, rfl⟩) wd_2344 wd_2346 wd_93 (by omega) (by decide) rfl (by simp [mm_crf, mm_cti, mm_ctl]) rfl dX12_marriesBy_37 ?_
    show V _ _ (.int v37 :: _) _
    refine mm_istore C (pc := 40) (i := 4) (lv' := [(4, .int v37), (3, .int v22), (0, va_rf a0), (1, .int a1), (2, .int a2)]) dX12_marriesBy_40 (by decide) rfl ?_
    refine mm_aload_n C (pc := 42) 2 dX12_marriesBy_42 rfl ?_
    refine mm_aload_n C (pc := 43) 2 dX12_marriesBy_43 rfl ?_
    replace hK := mm_bd hK; obtain ⟨v44, e44, hK⟩ := hK
    refine mm_getr C (pc := 44) (k := 0) inGX12 rfl (by decide) wd_1999 dX12_marriesBy_44 e44 ?_
    refine mm_bipush C (pc := 47) (v := (51 : Int32)) dX12_marriesBy_47 (by decide) ?_
    refine mm_iload_n C (pc := 49) 3 dX12_marriesBy_49 rfl ?_
    refine mm_iadd C (pc := 50) dX12_marriesBy_50 ?_
    replace hK := mm_bd hK; obtain ⟨v51, e51, hK⟩ := hK
    refine mm_iald C (pc := 51) dX12_marriesBy_51 e51 ?_
    refine mm_iload_n C (pc := 52) 4 dX12_marriesBy_52 rfl ?_
    refine mm_aload_n C (pc := 53) 2 dX12_marriesBy_53 rfl ?_
    replace hK := mm_bd hK; obtain ⟨v54, e54, hK⟩ := hK
    refine mm_getr C (pc := 54) (k := 0) inGX12 rfl (by decide) wd_1999 dX12_marriesBy_54 e54 ?_
    refine mm_bipush C (pc := 57) (v := (47 : Int32)) dX12_marriesBy_57 (by decide) ?_
    replace hK := mm_bd hK; obtain ⟨v59, e59, hK⟩ := hK
    refine mm_iald C (pc := 59) dX12_marriesBy_59 e59 ?_
    refine mm_iload_n C (pc := 60) 3 dX12_marriesBy_60 rfl ?_
    replace hK := mm_bd hK; obtain ⟨h61, e61, hK⟩ := hK
    obtain ⟨o61, e61⟩ := cV_some e61
    refine mm_callV C (pc := 61) (d1 := 1) (As := [.int v51, .int a2, .int v59, .int a1]) (st := []) (vk := none) ((S_X12_asks (by omega)) e61) tT_X12_asks o61 (Or.inr ⟨_, rfl, rfl⟩) wd_2375 wd_2377 wd_96 (by omega) (by decide) rfl (by simp [mm_crf, mm_cti, mm_ctl]) rfl dX12_marriesBy_61 ?_
    show V _ _ [] _
    refine mm_aload_n C (pc := 64) 2 dX12_marriesBy_64 rfl ?_
    replace hK := mm_bd hK; obtain ⟨v65, e65, hK⟩ := hK
    refine mm_getr C (pc := 65) (k := 20) inGX12 rfl (by decide) wd_2019 dX12_marriesBy_65 e65 ?_
    refine mm_iconst C (pc := 68) (v := (4 : Int32)) dX12_marriesBy_68 (by decide) ?_
    refine mm_iload_n C (pc := 69) 1 dX12_marriesBy_69 rfl ?_
    replace hK := mm_bd hK; obtain ⟨h70, e70, hK⟩ := hK
    refine mm_iast C (pc := 70) dX12_marriesBy_70 e70 ?_
    refine mm_aload_n C (pc := 71) 2 dX12_marriesBy_71 rfl ?_
    replace hK := mm_bd hK; obtain ⟨v72, e72, hK⟩ := hK
    refine mm_getr C (pc := 72) (k := 20) inGX12 rfl (by decide) wd_2019 dX12_marriesBy_72 e72 ?_
    refine mm_iconst C (pc := 75) (v := (5 : Int32)) dX12_marriesBy_75 (by decide) ?_
    refine mm_iload C (pc := 76) 0 dX12_marriesBy_76 rfl ?_
    replace hK := mm_bd hK; obtain ⟨h78, e78, hK⟩ := hK
    refine mm_iast C (pc := 78) dX12_marriesBy_78 e78 ?_
    refine mm_aload_n C (pc := 79) 2 dX12_marriesBy_79 rfl ?_
    refine mm_iconst C (pc := 80) (v := (5 : Int32)) dX12_marriesBy_80 (by decide) ?_
    refine mm_sipush C (pc := 81) (v := (2301 : Int32)) dX12_marriesBy_81 (by decide) ?_
    replace hK := mm_b2s hK; obtain ⟨v84, h84, e84, hK⟩ := hK
    obtain ⟨o84, e84⟩ := cV_some e84
    refine mm_callV C (pc := 84) (d1 := 3) (As := [.int (5 : Int32), .int (2301 : Int32)]) (st := []) (vk := (some (.int v84))) ((S_X12_lawOf (by omega)) e84) tT_X12_lawOf o84 (Or.inr ⟨_, rfl, rfl⟩) wd_2348 wd_2350 wd_94 (by omega) (by decide) rfl (by simp [mm_crf, mm_cti, mm_ctl]) rfl dX12_marriesBy_84 ?_
    show V _ _ (.int v84 :: _) _
    refine mm_iconst C (pc := 87) (v := (1 : Int32)) dX12_marriesBy_87 (by decide) ?_
    refine mm_icmp_ne C (pc := 88) (tgt := 95) dX12_marriesBy_88 (by decide) (fun hc => ?_) (fun hc => ?_)
    · replace hK := mm_in hc hK
      refine mm_iconst C (pc := 95) (v := (0 : Int32)) dX12_marriesBy_95 (by decide) ?_
      refine mm_sub C [] rfl ?_
      exact w_X12_marriesBy_96 hd C _ _ hK
    · replace hK := mm_ip hc hK
      refine mm_iconst C (pc := 91) (v := (1 : Int32)) dX12_marriesBy_91 (by decide) ?_
      refine mm_goto C (pc := 92) (tgt := 96) dX12_marriesBy_92 (by decide) ?_
      refine mm_sub C [] rfl ?_
      exact w_X12_marriesBy_96 hd C _ _ hK
  · replace hK := mm_ip hc hK
    refine mm_iconst C (pc := 9) (v := (0 : Int32)) dX12_marriesBy_9 (by decide) ?_
    replace hK := rZ_some hK; obtain ⟨hv10, hK⟩ := hK
    cases hK
    exact mm_zret C (pc := 10) rfl (mm_nrZ hv10) dX12_marriesBy_10 rfl rfl
def F_X12_busyIn_51 (k2 : Option Nat → Int32 → Int32 → MH → Option (Int32 × MH)) (l0 : Option Nat) (l1 : Int32) (l2 : Int32) (h : MH) : Option (Int32 × MH) := k2 l0 l1 (l2 + (1 : Int32)) h
set_option maxRecDepth 20000 in
set_option maxHeartbeats 4000000 in
theorem w_X12_busyIn_51 {d : Nat} {V : Nat → List (Nat × Value) → List Value → MH → Prop} {r : Int32} {hz : MH} {k2 : Option Nat → Int32 → Int32 → MH → Option (Int32 × MH)} (hd : 2 ≤ d) (C : mm_C d yX12_busyIn cX12_busyIn 3 (some .int) (.inr (some (.int r))) hz V) (q2 : ∀ (x0 : Option Nat) (x1 : Int32) (x2 : Int32) (h : MH), k2 x0 x1 x2 h = some (r, hz) → V 2 [(0, va_rf x0), (1, .int x1), (2, .int x2)] [] h) (l0 : Option Nat) (l1 : Int32) (l2 : Int32) (h : MH) (hK : F_X12_busyIn_51 k2 l0 l1 l2 h = some (r, hz)) : V 51 [(0, va_rf l0), (1, .int l1), (2, .int l2)] [] h := by
  unfold F_X12_busyIn_51 at hK
  refine mm_iinc C (pc := 51) (v := (l2 + (1 : Int32))) (lv' := [(2, .int (l2 + (1 : Int32))), (0, va_rf l0), (1, .int l1)]) 2 dX12_busyIn_51 rfl rfl (by decide) rfl ?_
  refine mm_goto C (pc := 54) (tgt := 2) dX12_busyIn_54 (by decide) ?_
  refine mm_sub C [1, 2, 0] rfl ?_
  exact q2 _ _ _ _ hK
def F_X12_busyIn_49 (l2 : Int32) (h : MH) : Option (Int32 × MH) := some (l2, h)
set_option maxRecDepth 20000 in
set_option maxHeartbeats 4000000 in
theorem w_X12_busyIn_49 {d : Nat} {V : Nat → List (Nat × Value) → List Value → MH → Prop} {r : Int32} {hz : MH} (hd : 2 ≤ d) (C : mm_C d yX12_busyIn cX12_busyIn 3 (some .int) (.inr (some (.int r))) hz V) (l2 : Int32) (h : MH) (hK : F_X12_busyIn_49 l2 h = some (r, hz)) : V 49 [(2, .int l2)] [] h := by
  unfold F_X12_busyIn_49 at hK
  refine mm_iload_n C (pc := 49) 0 dX12_busyIn_49 rfl ?_
  cases hK
  exact mm_iret C (pc := 50) rfl dX12_busyIn_50 rfl rfl
def F_X12_busyIn_2 : Nat → Option Nat → Int32 → Int32 → MH → Option (Int32 × MH)
  | 0 => fun _ _ _ _ => none
  | n + 1 => fun l0 l1 l2 h => mm_b2 (cV h l0 12 (F_X12_calls l0 h)) fun v4 h4 => if v4 ≤ l2 then (some (((-1) : Int32), h4)) else ((gR h4 l0 12 0).bind fun v11 => (aI h4 v11 0 ((8 : Int32) + l2)).bind fun v18 => if v18 = (1 : Int32) then ((gR h4 l0 12 0).bind fun v24 => (aI h4 v24 0 ((51 : Int32) + l2)).bind fun v31 => if v31 = l1 then (F_X12_busyIn_49 l2 h4) else ((gR h4 l0 12 0).bind fun v37 => (aI h4 v37 0 ((18 : Int32) + l2)).bind fun v44 => if v44 = l1 then (F_X12_busyIn_49 l2 h4) else (F_X12_busyIn_51 (F_X12_busyIn_2 n) l0 l1 l2 h4))) else (F_X12_busyIn_51 (F_X12_busyIn_2 n) l0 l1 l2 h4))
set_option maxRecDepth 20000 in
set_option maxHeartbeats 4000000 in
theorem w_X12_busyIn_2 {d : Nat} {V : Nat → List (Nat × Value) → List Value → MH → Prop} {r : Int32} {hz : MH} (hd : 2 ≤ d) (C : mm_C d yX12_busyIn cX12_busyIn 3 (some .int) (.inr (some (.int r))) hz V) : ∀ (n : Nat) (l0 : Option Nat) (l1 : Int32) (l2 : Int32) (h : MH), F_X12_busyIn_2 n l0 l1 l2 h = some (r, hz) → V 2 [(0, va_rf l0), (1, .int l1), (2, .int l2)] [] h := by
  intro n
  induction n with
  | zero => intro l0 l1 l2 h hK; cases hK
  | succ n ih =>
    intro l0 l1 l2 h hK
    replace hK : (mm_b2 (cV h l0 12 (F_X12_calls l0 h)) fun v4 h4 => if v4 ≤ l2 then (some (((-1) : Int32), h4)) else ((gR h4 l0 12 0).bind fun v11 => (aI h4 v11 0 ((8 : Int32) + l2)).bind fun v18 => if v18 = (1 : Int32) then ((gR h4 l0 12 0).bind fun v24 => (aI h4 v24 0 ((51 : Int32) + l2)).bind fun v31 => if v31 = l1 then (F_X12_busyIn_49 l2 h4) else ((gR h4 l0 12 0).bind fun v37 => (aI h4 v37 0 ((18 : Int32) + l2)).bind fun v44 => if v44 = l1 then (F_X12_busyIn_49 l2 h4) else (F_X12_busyIn_51 (F_X12_busyIn_2 n) l0 l1 l2 h4))) else (F_X12_busyIn_51 (F_X12_busyIn_2 n) l0 l1 l2 h4))) = some (r, hz) := hK
    refine mm_iload_n C (pc := 2) 2 dX12_busyIn_2 rfl ?_
    refine mm_aload_n C (pc := 3) 0 dX12_busyIn_3 rfl ?_
    replace hK := mm_b2s hK; obtain ⟨v4, h4, e4, hK⟩ := hK
    obtain ⟨o4, e4⟩ := cV_some e4
    refine mm_callV C (pc := 4) (d1 := 1) (As := []) (st := [.int l2]) (vk := (some (.int v4))) ((S_X12_calls (by omega)) e4) tT_X12_calls o4 (Or.inr ⟨_, rfl, rfl⟩) wd_2295 wd_2297 wd_87 (by omega) (by decide) rfl (by simp [mm_crf, mm_cti, mm_ctl]) rfl dX12_busyIn_4 ?_
    show V _ _ (.int v4 :: _) _
    refine mm_icmp_ge C (pc := 7) (tgt := 57) dX12_busyIn_7 (by decide) (fun hc => ?_) (fun hc => ?_)
    · replace hK := mm_ip hc hK
      refine mm_iconst C (pc := 57) (v := ((-1) : Int32)) dX12_busyIn_57 (by decide) ?_
      cases hK
      exact mm_iret C (pc := 58) rfl dX12_busyIn_58 rfl rfl
    · replace hK := mm_in hc hK
      refine mm_aload_n C (pc := 10) 0 dX12_busyIn_10 rfl ?_
      replace hK := mm_bd hK; obtain ⟨v11, e11, hK⟩ := hK
      refine mm_getr C (pc := 11) (k := 0) inGX12 rfl (by decide) wd_1999 dX12_busyIn_11 e11 ?_
      refine mm_bipush C (pc := 14) (v := (8 : Int32)) dX12_busyIn_14 (by decide) ?_
      refine mm_iload_n C (pc := 16) 2 dX12_busyIn_16 rfl ?_
      refine mm_iadd C (pc := 17) dX12_busyIn_17 ?_
      replace hK := mm_bd hK; obtain ⟨v18, e18, hK⟩ := hK
      refine mm_iald C (pc := 18) dX12_busyIn_18 e18 ?_
      refine mm_iconst C (pc := 19) (v := (1 : Int32)) dX12_busyIn_19 (by decide) ?_
      refine mm_icmp_ne C (pc := 20) (tgt := 51) dX12_busyIn_20 (by decide) (fun hc => ?_) (fun hc => ?_)
      · replace hK := mm_in hc hK
        exact w_X12_busyIn_51 hd C (fun z0 z1 z2 z3 hK => ih z0 z1 z2 z3 hK) _ _ _ _ hK
      · replace hK := mm_ip hc hK
        refine mm_aload_n C (pc := 23) 0 dX12_busyIn_23 rfl ?_
        replace hK := mm_bd hK; obtain ⟨v24, e24, hK⟩ := hK
        refine mm_getr C (pc := 24) (k := 0) inGX12 rfl (by decide) wd_1999 dX12_busyIn_24 e24 ?_
        refine mm_bipush C (pc := 27) (v := (51 : Int32)) dX12_busyIn_27 (by decide) ?_
        refine mm_iload_n C (pc := 29) 2 dX12_busyIn_29 rfl ?_
        refine mm_iadd C (pc := 30) dX12_busyIn_30 ?_
        replace hK := mm_bd hK; obtain ⟨v31, e31, hK⟩ := hK
        refine mm_iald C (pc := 31) dX12_busyIn_31 e31 ?_
        refine mm_iload_n C (pc := 32) 1 dX12_busyIn_32 rfl ?_
        refine mm_icmp_eq C (pc := 33) (tgt := 49) dX12_busyIn_33 (by decide) (fun hc => ?_) (fun hc => ?_)
        · replace hK := mm_ip hc hK
          refine mm_sub C [2] rfl ?_
          exact w_X12_busyIn_49 hd C _ _ hK
        · replace hK := mm_in hc hK
          refine mm_aload_n C (pc := 36) 0 dX12_busyIn_36 rfl ?_
          replace hK := mm_bd hK; obtain ⟨v37, e37, hK⟩ := hK
          refine mm_getr C (pc := 37) (k := 0) inGX12 rfl (by decide) wd_1999 dX12_busyIn_37 e37 ?_
          refine mm_bipush C (pc := 40) (v := (18 : Int32)) dX12_busyIn_40 (by decide) ?_
          refine mm_iload_n C (pc := 42) 2 dX12_busyIn_42 rfl ?_
          refine mm_iadd C (pc := 43) dX12_busyIn_43 ?_
          replace hK := mm_bd hK; obtain ⟨v44, e44, hK⟩ := hK
          refine mm_iald C (pc := 44) dX12_busyIn_44 e44 ?_
          refine mm_iload_n C (pc := 45) 1 dX12_busyIn_45 rfl ?_
          refine mm_icmp_ne C (pc := 46) (tgt := 51) dX12_busyIn_46 (by decide) (fun hc => ?_) (fun hc => ?_)
          · replace hK := mm_in hc hK
            exact w_X12_busyIn_51 hd C (fun z0 z1 z2 z3 hK => ih z0 z1 z2 z3 hK) _ _ _ _ hK
          · replace hK := mm_ip hc hK
            refine mm_sub C [2] rfl ?_
            exact w_X12_busyIn_49 hd C _ _ hK
def F_X12_busyIn (a0 : Option Nat) (a1 : Int32) (h : MH) : Option (Int32 × MH) := F_X12_busyIn_2 mm_N a0 a1 (0 : Int32) h
set_option maxRecDepth 20000 in
set_option maxHeartbeats 4000000 in
theorem S_X12_busyIn {d : Nat} (hd : 2 ≤ d) {a0 : Option Nat} {a1 : Int32} {h : MH} {r : Int32} {hz : MH} (hK : F_X12_busyIn a0 a1 h = some (r, hz)) : mm_M yX12_busyIn cX12_busyIn 3 (some .int) d [va_rf a0, .int a1] h (.inr (some (.int r))) hz := by
  refine mm_ofV (by decide +kernel) (by simp [lg_sl, mm_crf, mm_cti, mm_ctl]) (fun V C => ?_)
  rw [show lv_args 0 [va_rf a0, .int a1] = [(0, va_rf a0), (1, .int a1)] by simp [lv_args, mm_crf, mm_cti, mm_ctl]]
  unfold F_X12_busyIn at hK
  refine mm_iconst C (pc := 0) (v := (0 : Int32)) dX12_busyIn_0 (by decide) ?_
  refine mm_istore_n C (pc := 1) (i := 2) (lv' := [(2, .int (0 : Int32)), (0, va_rf a0), (1, .int a1)]) dX12_busyIn_1 rfl (by decide) rfl ?_
  refine mm_sub C [1, 2, 0] rfl ?_
  exact w_X12_busyIn_2 hd C _ _ _ _ _ hK
def F_X12_callOn_38 (k2 : Option Nat → Int32 → Int32 → MH → Option (Int32 × MH)) (l0 : Option Nat) (l1 : Int32) (l2 : Int32) (h : MH) : Option (Int32 × MH) := k2 l0 l1 (l2 + (1 : Int32)) h
set_option maxRecDepth 20000 in
set_option maxHeartbeats 4000000 in
theorem w_X12_callOn_38 {d : Nat} {V : Nat → List (Nat × Value) → List Value → MH → Prop} {r : Int32} {hz : MH} {k2 : Option Nat → Int32 → Int32 → MH → Option (Int32 × MH)} (hd : 2 ≤ d) (C : mm_C d yX12_callOn cX12_callOn 3 (some .int) (.inr (some (.int r))) hz V) (q2 : ∀ (x0 : Option Nat) (x1 : Int32) (x2 : Int32) (h : MH), k2 x0 x1 x2 h = some (r, hz) → V 2 [(0, va_rf x0), (1, .int x1), (2, .int x2)] [] h) (l0 : Option Nat) (l1 : Int32) (l2 : Int32) (h : MH) (hK : F_X12_callOn_38 k2 l0 l1 l2 h = some (r, hz)) : V 38 [(0, va_rf l0), (1, .int l1), (2, .int l2)] [] h := by
  unfold F_X12_callOn_38 at hK
  refine mm_iinc C (pc := 38) (v := (l2 + (1 : Int32))) (lv' := [(2, .int (l2 + (1 : Int32))), (0, va_rf l0), (1, .int l1)]) 2 dX12_callOn_38 rfl rfl (by decide) rfl ?_
  refine mm_goto C (pc := 41) (tgt := 2) dX12_callOn_41 (by decide) ?_
  refine mm_sub C [1, 2, 0] rfl ?_
  exact q2 _ _ _ _ hK
def F_X12_callOn_2 : Nat → Option Nat → Int32 → Int32 → MH → Option (Int32 × MH)
  | 0 => fun _ _ _ _ => none
  | n + 1 => fun l0 l1 l2 h => mm_b2 (cV h l0 12 (F_X12_calls l0 h)) fun v4 h4 => if v4 ≤ l2 then (some (((-1) : Int32), h4)) else ((gR h4 l0 12 0).bind fun v11 => (aI h4 v11 0 ((8 : Int32) + l2)).bind fun v18 => if v18 = (1 : Int32) then ((gR h4 l0 12 0).bind fun v24 => (aI h4 v24 0 ((28 : Int32) + l2)).bind fun v31 => if v31 = l1 then (some (l2, h4)) else (F_X12_callOn_38 (F_X12_callOn_2 n) l0 l1 l2 h4)) else (F_X12_callOn_38 (F_X12_callOn_2 n) l0 l1 l2 h4))
set_option maxRecDepth 20000 in
set_option maxHeartbeats 4000000 in
theorem w_X12_callOn_2 {d : Nat} {V : Nat → List (Nat × Value) → List Value → MH → Prop} {r : Int32} {hz : MH} (hd : 2 ≤ d) (C : mm_C d yX12_callOn cX12_callOn 3 (some .int) (.inr (some (.int r))) hz V) : ∀ (n : Nat) (l0 : Option Nat) (l1 : Int32) (l2 : Int32) (h : MH), F_X12_callOn_2 n l0 l1 l2 h = some (r, hz) → V 2 [(0, va_rf l0), (1, .int l1), (2, .int l2)] [] h := by
  intro n
  induction n with
  | zero => intro l0 l1 l2 h hK; cases hK
  | succ n ih =>
    intro l0 l1 l2 h hK
    replace hK : (mm_b2 (cV h l0 12 (F_X12_calls l0 h)) fun v4 h4 => if v4 ≤ l2 then (some (((-1) : Int32), h4)) else ((gR h4 l0 12 0).bind fun v11 => (aI h4 v11 0 ((8 : Int32) + l2)).bind fun v18 => if v18 = (1 : Int32) then ((gR h4 l0 12 0).bind fun v24 => (aI h4 v24 0 ((28 : Int32) + l2)).bind fun v31 => if v31 = l1 then (some (l2, h4)) else (F_X12_callOn_38 (F_X12_callOn_2 n) l0 l1 l2 h4)) else (F_X12_callOn_38 (F_X12_callOn_2 n) l0 l1 l2 h4))) = some (r, hz) := hK
    refine mm_iload_n C (pc := 2) 2 dX12_callOn_2 rfl ?_
    refine mm_aload_n C (pc := 3) 0 dX12_callOn_3 rfl ?_
    replace hK := mm_b2s hK; obtain ⟨v4, h4, e4, hK⟩ := hK
    obtain ⟨o4, e4⟩ := cV_some e4
    refine mm_callV C (pc := 4) (d1 := 1) (As := []) (st := [.int l2]) (vk := (some (.int v4))) ((S_X12_calls (by omega)) e4) tT_X12_calls o4 (Or.inr ⟨_, rfl, rfl⟩) wd_2295 wd_2297 wd_87 (by omega) (by decide) rfl (by simp [mm_crf, mm_cti, mm_ctl]) rfl dX12_callOn_4 ?_
    show V _ _ (.int v4 :: _) _
    refine mm_icmp_ge C (pc := 7) (tgt := 44) dX12_callOn_7 (by decide) (fun hc => ?_) (fun hc => ?_)
    · replace hK := mm_ip hc hK
      refine mm_iconst C (pc := 44) (v := ((-1) : Int32)) dX12_callOn_44 (by decide) ?_
      cases hK
      exact mm_iret C (pc := 45) rfl dX12_callOn_45 rfl rfl
    · replace hK := mm_in hc hK
      refine mm_aload_n C (pc := 10) 0 dX12_callOn_10 rfl ?_
      replace hK := mm_bd hK; obtain ⟨v11, e11, hK⟩ := hK
      refine mm_getr C (pc := 11) (k := 0) inGX12 rfl (by decide) wd_1999 dX12_callOn_11 e11 ?_
      refine mm_bipush C (pc := 14) (v := (8 : Int32)) dX12_callOn_14 (by decide) ?_
      refine mm_iload_n C (pc := 16) 2 dX12_callOn_16 rfl ?_
      refine mm_iadd C (pc := 17) dX12_callOn_17 ?_
      replace hK := mm_bd hK; obtain ⟨v18, e18, hK⟩ := hK
      refine mm_iald C (pc := 18) dX12_callOn_18 e18 ?_
      refine mm_iconst C (pc := 19) (v := (1 : Int32)) dX12_callOn_19 (by decide) ?_
      refine mm_icmp_ne C (pc := 20) (tgt := 38) dX12_callOn_20 (by decide) (fun hc => ?_) (fun hc => ?_)
      · replace hK := mm_in hc hK
        exact w_X12_callOn_38 hd C (fun z0 z1 z2 z3 hK => ih z0 z1 z2 z3 hK) _ _ _ _ hK
      · replace hK := mm_ip hc hK
        refine mm_aload_n C (pc := 23) 0 dX12_callOn_23 rfl ?_
        replace hK := mm_bd hK; obtain ⟨v24, e24, hK⟩ := hK
        refine mm_getr C (pc := 24) (k := 0) inGX12 rfl (by decide) wd_1999 dX12_callOn_24 e24 ?_
        refine mm_bipush C (pc := 27) (v := (28 : Int32)) dX12_callOn_27 (by decide) ?_
        refine mm_iload_n C (pc := 29) 2 dX12_callOn_29 rfl ?_
        refine mm_iadd C (pc := 30) dX12_callOn_30 ?_
        replace hK := mm_bd hK; obtain ⟨v31, e31, hK⟩ := hK
        refine mm_iald C (pc := 31) dX12_callOn_31 e31 ?_
        refine mm_iload_n C (pc := 32) 1 dX12_callOn_32 rfl ?_
        refine mm_icmp_ne C (pc := 33) (tgt := 38) dX12_callOn_33 (by decide) (fun hc => ?_) (fun hc => ?_)
        · replace hK := mm_in hc hK
          exact w_X12_callOn_38 hd C (fun z0 z1 z2 z3 hK => ih z0 z1 z2 z3 hK) _ _ _ _ hK
        · replace hK := mm_ip hc hK
          refine mm_iload_n C (pc := 36) 2 dX12_callOn_36 rfl ?_
          cases hK
          exact mm_iret C (pc := 37) rfl dX12_callOn_37 rfl rfl
def F_X12_callOn (a0 : Option Nat) (a1 : Int32) (h : MH) : Option (Int32 × MH) := F_X12_callOn_2 mm_N a0 a1 (0 : Int32) h
set_option maxRecDepth 20000 in
set_option maxHeartbeats 4000000 in
theorem S_X12_callOn {d : Nat} (hd : 2 ≤ d) {a0 : Option Nat} {a1 : Int32} {h : MH} {r : Int32} {hz : MH} (hK : F_X12_callOn a0 a1 h = some (r, hz)) : mm_M yX12_callOn cX12_callOn 3 (some .int) d [va_rf a0, .int a1] h (.inr (some (.int r))) hz := by
  refine mm_ofV (by decide +kernel) (by simp [lg_sl, mm_crf, mm_cti, mm_ctl]) (fun V C => ?_)
  rw [show lv_args 0 [va_rf a0, .int a1] = [(0, va_rf a0), (1, .int a1)] by simp [lv_args, mm_crf, mm_cti, mm_ctl]]
  unfold F_X12_callOn at hK
  refine mm_iconst C (pc := 0) (v := (0 : Int32)) dX12_callOn_0 (by decide) ?_
  refine mm_istore_n C (pc := 1) (i := 2) (lv' := [(2, .int (0 : Int32)), (0, va_rf a0), (1, .int a1)]) dX12_callOn_1 rfl (by decide) rfl ?_
  refine mm_sub C [1, 2, 0] rfl ?_
  exact w_X12_callOn_2 hd C _ _ _ _ _ hK
theorem wd_2330 : Cond.code yX12_callOn cX12_callOn 3 (some .int) ∈ lw_good := mm_wd 2330 (by decide +kernel) (by decide +kernel)
theorem tT_X12_callOn : mm_T yX12_callOn cX12_callOn 3 (some .int) 1 := ⟨wd_2330, wd_170, by decide +kernel, by decide +kernel, by decide +kernel, by decide +kernel⟩
theorem wd_2327 : Cond.methodLink RX12 304 yX12_callOn ∈ lw_good := mm_wd 2327 (by decide +kernel) (by decide +kernel)
theorem wd_2329 : Cond.instanceMethod yX12_callOn ∈ lw_good := mm_wd 2329 (by decide +kernel) (by decide +kernel)
theorem wd_91 : Cond.selects RX12 yX12_callOn yX12_callOn ∈ lw_good := mm_wd 91 (by decide +kernel) (by decide +kernel)
def F_X12_freeCord_55 (k2 : Option Nat → Int32 → Int32 → Int32 → MH → Option (Int32 × MH)) (l0 : Option Nat) (l1 : Int32) (l2 : Int32) (l3 : Int32) (h : MH) : Option (Int32 × MH) := k2 l0 l1 l2 (l3 + (1 : Int32)) h
set_option maxRecDepth 20000 in
set_option maxHeartbeats 4000000 in
theorem w_X12_freeCord_55 {d : Nat} {V : Nat → List (Nat × Value) → List Value → MH → Prop} {r : Int32} {hz : MH} {k2 : Option Nat → Int32 → Int32 → Int32 → MH → Option (Int32 × MH)} (hd : 3 ≤ d) (C : mm_C d yX12_freeCord cX12_freeCord 4 (some .int) (.inr (some (.int r))) hz V) (q2 : ∀ (x0 : Option Nat) (x1 : Int32) (x2 : Int32) (x3 : Int32) (h : MH), k2 x0 x1 x2 x3 h = some (r, hz) → V 2 [(0, va_rf x0), (1, .int x1), (2, .int x2), (3, .int x3)] [] h) (l0 : Option Nat) (l1 : Int32) (l2 : Int32) (l3 : Int32) (h : MH) (hK : F_X12_freeCord_55 k2 l0 l1 l2 l3 h = some (r, hz)) : V 55 [(0, va_rf l0), (1, .int l1), (2, .int l2), (3, .int l3)] [] h := by
  unfold F_X12_freeCord_55 at hK
  refine mm_iinc C (pc := 55) (v := (l3 + (1 : Int32))) (lv' := [(3, .int (l3 + (1 : Int32))), (0, va_rf l0), (1, .int l1), (2, .int l2)]) 3 dX12_freeCord_55 rfl rfl (by decide) rfl ?_
  refine mm_goto C (pc := 58) (tgt := 2) dX12_freeCord_58 (by decide) ?_
  refine mm_sub C [1, 2, 3, 0] rfl ?_
  exact q2 _ _ _ _ _ hK
def F_X12_freeCord_2 : Nat → Option Nat → Int32 → Int32 → Int32 → MH → Option (Int32 × MH)
  | 0 => fun _ _ _ _ _ => none
  | n + 1 => fun l0 l1 l2 l3 h => (gR h l0 12 0).bind fun v4 => (aI h v4 0 (2 : Int32)).bind fun v8 => if v8 ≤ l3 then (some (((-1) : Int32), h)) else ((gR h l0 12 0).bind fun v13 => (aI h v13 0 ((48 : Int32) + l3)).bind fun v20 => mm_b2 (F_X12_has v20 l1 h) fun v22 h22 => if v22 = 0 then (F_X12_freeCord_55 (F_X12_freeCord_2 n) l0 l1 l2 l3 h22) else ((gR h22 l0 12 0).bind fun v29 => (aI h22 v29 0 ((48 : Int32) + l3)).bind fun v36 => mm_b2 (F_X12_has v36 l2 h22) fun v38 h38 => if v38 = 0 then (F_X12_freeCord_55 (F_X12_freeCord_2 n) l0 l1 l2 l3 h38) else (mm_b2 (cV h38 l0 12 (F_X12_callOn l0 l3 h38)) fun v46 h46 => if v46 = ((-1) : Int32) then (some (l3, h46)) else (F_X12_freeCord_55 (F_X12_freeCord_2 n) l0 l1 l2 l3 h46))))
set_option maxRecDepth 20000 in
set_option maxHeartbeats 4000000 in
theorem w_X12_freeCord_2 {d : Nat} {V : Nat → List (Nat × Value) → List Value → MH → Prop} {r : Int32} {hz : MH} (hd : 3 ≤ d) (C : mm_C d yX12_freeCord cX12_freeCord 4 (some .int) (.inr (some (.int r))) hz V) : ∀ (n : Nat) (l0 : Option Nat) (l1 : Int32) (l2 : Int32) (l3 : Int32) (h : MH), F_X12_freeCord_2 n l0 l1 l2 l3 h = some (r, hz) → V 2 [(0, va_rf l0), (1, .int l1), (2, .int l2), (3, .int l3)] [] h := by
  intro n
  induction n with
  | zero => intro l0 l1 l2 l3 h hK; cases hK
  | succ n ih =>
    intro l0 l1 l2 l3 h hK
    replace hK : ((gR h l0 12 0).bind fun v4 => (aI h v4 0 (2 : Int32)).bind fun v8 => if v8 ≤ l3 then (some (((-1) : Int32), h)) else ((gR h l0 12 0).bind fun v13 => (aI h v13 0 ((48 : Int32) + l3)).bind fun v20 => mm_b2 (F_X12_has v20 l1 h) fun v22 h22 => if v22 = 0 then (F_X12_freeCord_55 (F_X12_freeCord_2 n) l0 l1 l2 l3 h22) else ((gR h22 l0 12 0).bind fun v29 => (aI h22 v29 0 ((48 : Int32) + l3)).bind fun v36 => mm_b2 (F_X12_has v36 l2 h22) fun v38 h38 => if v38 = 0 then (F_X12_freeCord_55 (F_X12_freeCord_2 n) l0 l1 l2 l3 h38) else (mm_b2 (cV h38 l0 12 (F_X12_callOn l0 l3 h38)) fun v46 h46 => if v46 = ((-1) : Int32) then (some (l3, h46)) else (F_X12_freeCord_55 (F_X12_freeCord_2 n) l0 l1 l2 l3 h46))))) = some (r, hz) := hK
    refine mm_iload_n C (pc := 2) 3 dX12_freeCord_2 rfl ?_
    refine mm_aload_n C (pc := 3) 0 dX12_freeCord_3 rfl ?_
    replace hK := mm_bd hK; obtain ⟨v4, e4, hK⟩ := hK
    refine mm_getr C (pc := 4) (k := 0) inGX12 rfl (by decide) wd_1999 dX12_freeCord_4 e4 ?_
    refine mm_iconst C (pc := 7) (v := (2 : Int32)) dX12_freeCord_7 (by decide) ?_
    replace hK := mm_bd hK; obtain ⟨v8, e8, hK⟩ := hK
    refine mm_iald C (pc := 8) dX12_freeCord_8 e8 ?_
    refine mm_icmp_ge C (pc := 9) (tgt := 61) dX12_freeCord_9 (by decide) (fun hc => ?_) (fun hc => ?_)
    · replace hK := mm_ip hc hK
      refine mm_iconst C (pc := 61) (v := ((-1) : Int32)) dX12_freeCord_61 (by decide) ?_
      cases hK
      exact mm_iret C (pc := 62) rfl dX12_freeCord_62 rfl rfl
    · replace hK := mm_in hc hK
      refine mm_aload_n C (pc := 12) 0 dX12_freeCord_12 rfl ?_
      replace hK := mm_bd hK; obtain ⟨v13, e13, hK⟩ := hK
      refine mm_getr C (pc := 13) (k := 0) inGX12 rfl (by decide) wd_1999 dX12_freeCord_13 e13 ?_
      refine mm_bipush C (pc := 16) (v := (48 : Int32)) dX12_freeCord_16 (by decide) ?_
      refine mm_iload_n C (pc := 18) 3 dX12_freeCord_18 rfl ?_
      refine mm_iadd C (pc := 19) dX12_freeCord_19 ?_
      replace hK := mm_bd hK; obtain ⟨v20, e20, hK⟩ := hK
      refine mm_iald C (pc := 20) dX12_freeCord_20 e20 ?_
      refine mm_iload_n C (pc := 21) 1 dX12_freeCord_21 rfl ?_
      replace hK := mm_b2s hK; obtain ⟨v22, h22, e22, hK⟩ := hK
      refine mm_callS C (pc := 22) (d1 := 1) (As := [.int v20, .int l1]) (st := []) (vk := (some (.int v22))) ((S_X12_has (by omega)) e22) tT_X12_has wd_2316 wd_2317 (by omega) (by decide) rfl (by simp [mm_crf, mm_cti, mm_ctl]) rfl dX12_freeCord_22 ?_
      show V _ _ (.int v22 :: _) _
      refine mm_if_eq C (pc := 25) (tgt := 55) dX12_freeCord_25 (by decide) (fun hc => ?_) (fun hc => ?_)
      · replace hK := mm_ip hc hK
        exact w_X12_freeCord_55 hd C (fun z0 z1 z2 z3 z4 hK => ih z0 z1 z2 z3 z4 hK) _ _ _ _ _ hK
      · replace hK := mm_in hc hK
        refine mm_aload_n C (pc := 28) 0 dX12_freeCord_28 rfl ?_
        replace hK := mm_bd hK; obtain ⟨v29, e29, hK⟩ := hK
        refine mm_getr C (pc := 29) (k := 0) inGX12 rfl (by decide) wd_1999 dX12_freeCord_29 e29 ?_
        refine mm_bipush C (pc := 32) (v := (48 : Int32)) dX12_freeCord_32 (by decide) ?_
        refine mm_iload_n C (pc := 34) 3 dX12_freeCord_34 rfl ?_
        refine mm_iadd C (pc := 35) dX12_freeCord_35 ?_
        replace hK := mm_bd hK; obtain ⟨v36, e36, hK⟩ := hK
        refine mm_iald C (pc := 36) dX12_freeCord_36 e36 ?_
        refine mm_iload_n C (pc := 37) 2 dX12_freeCord_37 rfl ?_
        replace hK := mm_b2s hK; obtain ⟨v38, h38, e38, hK⟩ := hK
        refine mm_callS C (pc := 38) (d1 := 1) (As := [.int v36, .int l2]) (st := []) (vk := (some (.int v38))) ((S_X12_has (by omega)) e38) tT_X12_has wd_2316 wd_2317 (by omega) (by decide) rfl (by simp [mm_crf, mm_cti, mm_ctl]) rfl dX12_freeCord_38 ?_
        show V _ _ (.int v38 :: _) _
        refine mm_if_eq C (pc := 41) (tgt := 55) dX12_freeCord_41 (by decide) (fun hc => ?_) (fun hc => ?_)
        · replace hK := mm_ip hc hK
          exact w_X12_freeCord_55 hd C (fun z0 z1 z2 z3 z4 hK => ih z0 z1 z2 z3 z4 hK) _ _ _ _ _ hK
        · replace hK := mm_in hc hK
          refine mm_aload_n C (pc := 44) 0 dX12_freeCord_44 rfl ?_
          refine mm_iload_n C (pc := 45) 3 dX12_freeCord_45 rfl ?_
          replace hK := mm_b2s hK; obtain ⟨v46, h46, e46, hK⟩ := hK
          obtain ⟨o46, e46⟩ := cV_some e46
          refine mm_callV C (pc := 46) (d1 := 2) (As := [.int l3]) (st := []) (vk := (some (.int v46))) ((S_X12_callOn (by omega)) e46) tT_X12_callOn o46 (Or.inr ⟨_, rfl, rfl⟩) wd_2327 wd_2329 wd_91 (by omega) (by decide) rfl (by simp [mm_crf, mm_cti, mm_ctl]) rfl dX12_freeCord_46 ?_
          show V _ _ (.int v46 :: _) _
          refine mm_iconst C (pc := 49) (v := ((-1) : Int32)) dX12_freeCord_49 (by decide) ?_
          refine mm_icmp_ne C (pc := 50) (tgt := 55) dX12_freeCord_50 (by decide) (fun hc => ?_) (fun hc => ?_)
          · replace hK := mm_in hc hK
            exact w_X12_freeCord_55 hd C (fun z0 z1 z2 z3 z4 hK => ih z0 z1 z2 z3 z4 hK) _ _ _ _ _ hK
          · replace hK := mm_ip hc hK
            refine mm_iload_n C (pc := 53) 3 dX12_freeCord_53 rfl ?_
            cases hK
            exact mm_iret C (pc := 54) rfl dX12_freeCord_54 rfl rfl
def F_X12_freeCord (a0 : Option Nat) (a1 : Int32) (a2 : Int32) (h : MH) : Option (Int32 × MH) := F_X12_freeCord_2 mm_N a0 a1 a2 (0 : Int32) h
set_option maxRecDepth 20000 in
set_option maxHeartbeats 4000000 in
theorem S_X12_freeCord {d : Nat} (hd : 3 ≤ d) {a0 : Option Nat} {a1 : Int32} {a2 : Int32} {h : MH} {r : Int32} {hz : MH} (hK : F_X12_freeCord a0 a1 a2 h = some (r, hz)) : mm_M yX12_freeCord cX12_freeCord 4 (some .int) d [va_rf a0, .int a1, .int a2] h (.inr (some (.int r))) hz := by
  refine mm_ofV (by decide +kernel) (by simp [lg_sl, mm_crf, mm_cti, mm_ctl]) (fun V C => ?_)
  rw [show lv_args 0 [va_rf a0, .int a1, .int a2] = [(0, va_rf a0), (1, .int a1), (2, .int a2)] by simp [lv_args, mm_crf, mm_cti, mm_ctl]]
  unfold F_X12_freeCord at hK
  refine mm_iconst C (pc := 0) (v := (0 : Int32)) dX12_freeCord_0 (by decide) ?_
  refine mm_istore_n C (pc := 1) (i := 3) (lv' := [(3, .int (0 : Int32)), (0, va_rf a0), (1, .int a1), (2, .int a2)]) dX12_freeCord_1 rfl (by decide) rfl ?_
  refine mm_sub C [1, 2, 3, 0] rfl ?_
  exact w_X12_freeCord_2 hd C _ _ _ _ _ _ hK
theorem wd_2423 : Cond.code yX12_marriesBy cX12_marriesBy 5 (some .boolean) ∈ lw_good := mm_wd 2423 (by decide +kernel) (by decide +kernel)
theorem tT_X12_marriesBy : mm_T yX12_marriesBy cX12_marriesBy 5 (some .boolean) 2 := ⟨wd_2423, wd_170, by decide +kernel, by decide +kernel, by decide +kernel, by decide +kernel⟩
theorem wd_2420 : Cond.methodLink RX12 322 yX12_marriesBy ∈ lw_good := mm_wd 2420 (by decide +kernel) (by decide +kernel)
theorem wd_2422 : Cond.instanceMethod yX12_marriesBy ∈ lw_good := mm_wd 2422 (by decide +kernel) (by decide +kernel)
theorem wd_103 : Cond.selects RX12 yX12_marriesBy yX12_marriesBy ∈ lw_good := mm_wd 103 (by decide +kernel) (by decide +kernel)
theorem wd_2021 : Cond.fieldLink RX12 319 "CrossedLinesModel" "lostThen" "I" ∈ lw_good := mm_wd 2021 (by decide +kernel) (by decide +kernel)
theorem wd_2315 : Cond.code yX12_isShut cX12_isShut 2 (some .boolean) ∈ lw_good := mm_wd 2315 (by decide +kernel) (by decide +kernel)
theorem tT_X12_isShut : mm_T yX12_isShut cX12_isShut 2 (some .boolean) 1 := ⟨wd_2315, wd_170, by decide +kernel, by decide +kernel, by decide +kernel, by decide +kernel⟩
theorem wd_2312 : Cond.methodLink RX12 310 yX12_isShut ∈ lw_good := mm_wd 2312 (by decide +kernel) (by decide +kernel)
theorem wd_2314 : Cond.instanceMethod yX12_isShut ∈ lw_good := mm_wd 2314 (by decide +kernel) (by decide +kernel)
theorem wd_89 : Cond.selects RX12 yX12_isShut yX12_isShut ∈ lw_good := mm_wd 89 (by decide +kernel) (by decide +kernel)
theorem wd_2322 : Cond.code yX12_busyIn cX12_busyIn 3 (some .int) ∈ lw_good := mm_wd 2322 (by decide +kernel) (by decide +kernel)
theorem tT_X12_busyIn : mm_T yX12_busyIn cX12_busyIn 3 (some .int) 1 := ⟨wd_2322, wd_170, by decide +kernel, by decide +kernel, by decide +kernel, by decide +kernel⟩
theorem wd_2319 : Cond.methodLink RX12 313 yX12_busyIn ∈ lw_good := mm_wd 2319 (by decide +kernel) (by decide +kernel)
theorem wd_2321 : Cond.instanceMethod yX12_busyIn ∈ lw_good := mm_wd 2321 (by decide +kernel) (by decide +kernel)
theorem wd_90 : Cond.selects RX12 yX12_busyIn yX12_busyIn ∈ lw_good := mm_wd 90 (by decide +kernel) (by decide +kernel)
theorem wd_2419 : Cond.code yX12_freeCord cX12_freeCord 4 (some .int) ∈ lw_good := mm_wd 2419 (by decide +kernel) (by decide +kernel)
theorem tT_X12_freeCord : mm_T yX12_freeCord cX12_freeCord 4 (some .int) 2 := ⟨wd_2419, wd_170, by decide +kernel, by decide +kernel, by decide +kernel, by decide +kernel⟩
theorem wd_2416 : Cond.methodLink RX12 316 yX12_freeCord ∈ lw_good := mm_wd 2416 (by decide +kernel) (by decide +kernel)
theorem wd_2418 : Cond.instanceMethod yX12_freeCord ∈ lw_good := mm_wd 2418 (by decide +kernel) (by decide +kernel)
theorem wd_102 : Cond.selects RX12 yX12_freeCord yX12_freeCord ∈ lw_good := mm_wd 102 (by decide +kernel) (by decide +kernel)
theorem wd_2374 : Cond.code yX12_comesBy cX12_comesBy 4 (some .int) ∈ lw_good := mm_wd 2374 (by decide +kernel) (by decide +kernel)
theorem tT_X12_comesBy : mm_T yX12_comesBy cX12_comesBy 4 (some .int) 2 := ⟨wd_2374, wd_170, by decide +kernel, by decide +kernel, by decide +kernel, by decide +kernel⟩
theorem wd_2371 : Cond.methodLink RX12 307 yX12_comesBy ∈ lw_good := mm_wd 2371 (by decide +kernel) (by decide +kernel)
theorem wd_2373 : Cond.instanceMethod yX12_comesBy ∈ lw_good := mm_wd 2373 (by decide +kernel) (by decide +kernel)
theorem wd_95 : Cond.selects RX12 yX12_comesBy yX12_comesBy ∈ lw_good := mm_wd 95 (by decide +kernel) (by decide +kernel)
def F_X12_callBegins_201 (h : MH) : Option MH := some h
set_option maxRecDepth 20000 in
set_option maxHeartbeats 4000000 in
theorem w_X12_callBegins_201 {d : Nat} {V : Nat → List (Nat × Value) → List Value → MH → Prop} {hz : MH} (hd : 6 ≤ d) (C : mm_C d yX12_callBegins cX12_callBegins 5 none (.inr none) hz V) (h : MH) (hK : F_X12_callBegins_201  h = some hz) : V 201 [] [] h := by
  unfold F_X12_callBegins_201 at hK
  cases hK
  exact mm_vret C (pc := 201) rfl dX12_callBegins_201 rfl rfl
def F_X12_callBegins_91 (l0 : Option Nat) (l1 : Int32) (l2 : Int32) (l3 : Int32) (s0 : Int32) (h : MH) : Option MH := if s0 = ((-1) : Int32) then ((gR h l0 12 0).bind fun v100 => (sI h v100 0 ((8 : Int32) + l1) (3 : Int32)).bind fun h108 => (gI h108 l0 12 22).bind fun v111 => (pI h108 l0 12 22 (v111 ||| ((1 : Int32) <<< (l1 &&& 31)))).bind fun h118 => some h118) else ((gR h l0 12 0).bind fun v123 => (sI h v123 0 ((8 : Int32) + l1) (1 : Int32)).bind fun h131 => (gR h131 l0 12 0).bind fun v133 => (sI h131 v133 0 ((18 : Int32) + l1) l3).bind fun h141 => (gR h141 l0 12 0).bind fun v143 => (sI h141 v143 0 ((28 : Int32) + l1) s0).bind fun h152 => (gR h152 l0 12 0).bind fun v155 => (aI h152 v155 0 ((61 : Int32) + l1)).bind fun v162 => if l3 = v162 then (F_X12_callBegins_201 h152) else ((gR h152 l0 12 0).bind fun v167 => (aI h152 v167 0 ((38 : Int32) + l2)).bind fun v174 => if v174 = ((-1) : Int32) then ((gR h152 l0 12 0).bind fun v180 => (aI h152 v180 0 ((38 : Int32) + l3)).bind fun v187 => if v187 = ((-1) : Int32) then (mm_b2 (cV h152 l0 12 (F_X12_marriesBy l0 l1 l3 h152)) fun v195 h195 => if v195 = 0 then (F_X12_callBegins_201 h195) else ((gR h195 l0 12 0).bind fun v203 => (sI h195 v203 0 ((38 : Int32) + l2) l3).bind fun h211 => (gR h211 l0 12 0).bind fun v213 => (sI h211 v213 0 ((38 : Int32) + l3) l2).bind fun h221 => some h221)) else (F_X12_callBegins_201 h152)) else (F_X12_callBegins_201 h152)))
set_option maxRecDepth 20000 in
set_option maxHeartbeats 4000000 in
theorem w_X12_callBegins_91 {d : Nat} {V : Nat → List (Nat × Value) → List Value → MH → Prop} {hz : MH} (hd : 6 ≤ d) (C : mm_C d yX12_callBegins cX12_callBegins 5 none (.inr none) hz V) (l0 : Option Nat) (l1 : Int32) (l2 : Int32) (l3 : Int32) (s0 : Int32) (h : MH) (hK : F_X12_callBegins_91 l0 l1 l2 l3 s0 h = some hz) : V 91 [(0, va_rf l0), (1, .int l1), (2, .int l2), (3, .int l3)] [.int s0] h := by
  unfold F_X12_callBegins_91 at hK
  refine mm_istore C (pc := 91) (i := 4) (lv' := [(4, .int s0), (0, va_rf l0), (1, .int l1), (2, .int l2), (3, .int l3)]) dX12_callBegins_91 (by decide) rfl ?_
  refine mm_iload C (pc := 93) 0 dX12_callBegins_93 rfl ?_
  refine mm_iconst C (pc := 95) (v := ((-1) : Int32)) dX12_callBegins_95 (by decide) ?_
  refine mm_icmp_ne C (pc := 96) (tgt := 122) dX12_callBegins_96 (by decide) (fun hc => ?_) (fun hc => ?_)
  · replace hK := mm_in hc hK
    refine mm_aload_n C (pc := 122) 1 dX12_callBegins_122 rfl ?_
    replace hK := mm_bd hK; obtain ⟨v123, e123, hK⟩ := hK
    refine mm_getr C (pc := 123) (k := 0) inGX12 rfl (by decide) wd_1999 dX12_callBegins_123 e123 ?_
    refine mm_bipush C (pc := 126) (v := (8 : Int32)) dX12_callBegins_126 (by decide) ?_
    refine mm_iload_n C (pc := 128) 2 dX12_callBegins_128 rfl ?_
    refine mm_iadd C (pc := 129) dX12_callBegins_129 ?_
    refine mm_iconst C (pc := 130) (v := (1 : Int32)) dX12_callBegins_130 (by decide) ?_
    replace hK := mm_bd hK; obtain ⟨h131, e131, hK⟩ := hK
    refine mm_iast C (pc := 131) dX12_callBegins_131 e131 ?_
    refine mm_aload_n C (pc := 132) 1 dX12_callBegins_132 rfl ?_
    replace hK := mm_bd hK; obtain ⟨v133, e133, hK⟩ := hK
    refine mm_getr C (pc := 133) (k := 0) inGX12 rfl (by decide) wd_1999 dX12_callBegins_133 e133 ?_
    refine mm_bipush C (pc := 136) (v := (18 : Int32)) dX12_callBegins_136 (by decide) ?_
    refine mm_iload_n C (pc := 138) 2 dX12_callBegins_138 rfl ?_
    refine mm_iadd C (pc := 139) dX12_callBegins_139 ?_
    refine mm_iload_n C (pc := 140) 4 dX12_callBegins_140 rfl ?_
    replace hK := mm_bd hK; obtain ⟨h141, e141, hK⟩ := hK
    refine mm_iast C (pc := 141) dX12_callBegins_141 e141 ?_
    refine mm_aload_n C (pc := 142) 1 dX12_callBegins_142 rfl ?_
    replace hK := mm_bd hK; obtain ⟨v143, e143, hK⟩ := hK
    refine mm_getr C (pc := 143) (k := 0) inGX12 rfl (by decide) wd_1999 dX12_callBegins_143 e143 ?_
    refine mm_bipush C (pc := 146) (v := (28 : Int32)) dX12_callBegins_146 (by decide) ?_
    refine mm_iload_n C (pc := 148) 2 dX12_callBegins_148 rfl ?_
    refine mm_iadd C (pc := 149) dX12_callBegins_149 ?_
    refine mm_iload C (pc := 150) 0 dX12_callBegins_150 rfl ?_
    replace hK := mm_bd hK; obtain ⟨h152, e152, hK⟩ := hK
    refine mm_iast C (pc := 152) dX12_callBegins_152 e152 ?_
    refine mm_iload_n C (pc := 153) 4 dX12_callBegins_153 rfl ?_
    refine mm_aload_n C (pc := 154) 1 dX12_callBegins_154 rfl ?_
    replace hK := mm_bd hK; obtain ⟨v155, e155, hK⟩ := hK
    refine mm_getr C (pc := 155) (k := 0) inGX12 rfl (by decide) wd_1999 dX12_callBegins_155 e155 ?_
    refine mm_bipush C (pc := 158) (v := (61 : Int32)) dX12_callBegins_158 (by decide) ?_
    refine mm_iload_n C (pc := 160) 2 dX12_callBegins_160 rfl ?_
    refine mm_iadd C (pc := 161) dX12_callBegins_161 ?_
    replace hK := mm_bd hK; obtain ⟨v162, e162, hK⟩ := hK
    refine mm_iald C (pc := 162) dX12_callBegins_162 e162 ?_
    refine mm_icmp_eq C (pc := 163) (tgt := 201) dX12_callBegins_163 (by decide) (fun hc => ?_) (fun hc => ?_)
    · replace hK := mm_ip hc hK
      refine mm_sub C [] rfl ?_
      exact w_X12_callBegins_201 hd C _ hK
    · replace hK := mm_in hc hK
      refine mm_aload_n C (pc := 166) 1 dX12_callBegins_166 rfl ?_
      replace hK := mm_bd hK; obtain ⟨v167, e167, hK⟩ := hK
      refine mm_getr C (pc := 167) (k := 0) inGX12 rfl (by decide) wd_1999 dX12_callBegins_167 e167 ?_
      refine mm_bipush C (pc := 170) (v := (38 : Int32)) dX12_callBegins_170 (by decide) ?_
      refine mm_iload_n C (pc := 172) 3 dX12_callBegins_172 rfl ?_
      refine mm_iadd C (pc := 173) dX12_callBegins_173 ?_
      replace hK := mm_bd hK; obtain ⟨v174, e174, hK⟩ := hK
      refine mm_iald C (pc := 174) dX12_callBegins_174 e174 ?_
      refine mm_iconst C (pc := 175) (v := ((-1) : Int32)) dX12_callBegins_175 (by decide) ?_
      refine mm_icmp_ne C (pc := 176) (tgt := 201) dX12_callBegins_176 (by decide) (fun hc => ?_) (fun hc => ?_)
      · replace hK := mm_in hc hK
        refine mm_sub C [] rfl ?_
        exact w_X12_callBegins_201 hd C _ hK
      · replace hK := mm_ip hc hK
        refine mm_aload_n C (pc := 179) 1 dX12_callBegins_179 rfl ?_
        replace hK := mm_bd hK; obtain ⟨v180, e180, hK⟩ := hK
        refine mm_getr C (pc := 180) (k := 0) inGX12 rfl (by decide) wd_1999 dX12_callBegins_180 e180 ?_
        refine mm_bipush C (pc := 183) (v := (38 : Int32)) dX12_callBegins_183 (by decide) ?_
        refine mm_iload_n C (pc := 185) 4 dX12_callBegins_185 rfl ?_
        refine mm_iadd C (pc := 186) dX12_callBegins_186 ?_
        replace hK := mm_bd hK; obtain ⟨v187, e187, hK⟩ := hK
        refine mm_iald C (pc := 187) dX12_callBegins_187 e187 ?_
        refine mm_iconst C (pc := 188) (v := ((-1) : Int32)) dX12_callBegins_188 (by decide) ?_
        refine mm_icmp_ne C (pc := 189) (tgt := 201) dX12_callBegins_189 (by decide) (fun hc => ?_) (fun hc => ?_)
        · replace hK := mm_in hc hK
          refine mm_sub C [] rfl ?_
          exact w_X12_callBegins_201 hd C _ hK
        · replace hK := mm_ip hc hK
          refine mm_aload_n C (pc := 192) 1 dX12_callBegins_192 rfl ?_
          refine mm_iload_n C (pc := 193) 2 dX12_callBegins_193 rfl ?_
          refine mm_iload_n C (pc := 194) 4 dX12_callBegins_194 rfl ?_
          replace hK := mm_b2s hK; obtain ⟨v195, h195, e195, hK⟩ := hK
          obtain ⟨o195, e195⟩ := cV_some e195
          refine mm_callV C (pc := 195) (d1 := 5) (As := [.int l1, .int l3]) (st := []) (vk := (some (.int v195))) ((S_X12_marriesBy (by omega)) e195) tT_X12_marriesBy o195 (Or.inr ⟨_, rfl, rfl⟩) wd_2420 wd_2422 wd_103 (by omega) (by decide) rfl (by simp [mm_crf, mm_cti, mm_ctl]) rfl dX12_callBegins_195 ?_
          show V _ _ (.int v195 :: _) _
          refine mm_if_ne C (pc := 198) (tgt := 202) dX12_callBegins_198 (by decide) (fun hc => ?_) (fun hc => ?_)
          · replace hK := mm_in hc hK
            refine mm_aload_n C (pc := 202) 1 dX12_callBegins_202 rfl ?_
            replace hK := mm_bd hK; obtain ⟨v203, e203, hK⟩ := hK
            refine mm_getr C (pc := 203) (k := 0) inGX12 rfl (by decide) wd_1999 dX12_callBegins_203 e203 ?_
            refine mm_bipush C (pc := 206) (v := (38 : Int32)) dX12_callBegins_206 (by decide) ?_
            refine mm_iload_n C (pc := 208) 3 dX12_callBegins_208 rfl ?_
            refine mm_iadd C (pc := 209) dX12_callBegins_209 ?_
            refine mm_iload_n C (pc := 210) 4 dX12_callBegins_210 rfl ?_
            replace hK := mm_bd hK; obtain ⟨h211, e211, hK⟩ := hK
            refine mm_iast C (pc := 211) dX12_callBegins_211 e211 ?_
            refine mm_aload_n C (pc := 212) 1 dX12_callBegins_212 rfl ?_
            replace hK := mm_bd hK; obtain ⟨v213, e213, hK⟩ := hK
            refine mm_getr C (pc := 213) (k := 0) inGX12 rfl (by decide) wd_1999 dX12_callBegins_213 e213 ?_
            refine mm_bipush C (pc := 216) (v := (38 : Int32)) dX12_callBegins_216 (by decide) ?_
            refine mm_iload_n C (pc := 218) 4 dX12_callBegins_218 rfl ?_
            refine mm_iadd C (pc := 219) dX12_callBegins_219 ?_
            refine mm_iload_n C (pc := 220) 3 dX12_callBegins_220 rfl ?_
            replace hK := mm_bd hK; obtain ⟨h221, e221, hK⟩ := hK
            refine mm_iast C (pc := 221) dX12_callBegins_221 e221 ?_
            cases hK
            exact mm_vret C (pc := 222) rfl dX12_callBegins_222 rfl rfl
          · replace hK := mm_ip hc hK
            refine mm_sub C [] rfl ?_
            exact w_X12_callBegins_201 hd C _ hK
  · replace hK := mm_ip hc hK
    refine mm_aload_n C (pc := 99) 1 dX12_callBegins_99 rfl ?_
    replace hK := mm_bd hK; obtain ⟨v100, e100, hK⟩ := hK
    refine mm_getr C (pc := 100) (k := 0) inGX12 rfl (by decide) wd_1999 dX12_callBegins_100 e100 ?_
    refine mm_bipush C (pc := 103) (v := (8 : Int32)) dX12_callBegins_103 (by decide) ?_
    refine mm_iload_n C (pc := 105) 2 dX12_callBegins_105 rfl ?_
    refine mm_iadd C (pc := 106) dX12_callBegins_106 ?_
    refine mm_iconst C (pc := 107) (v := (3 : Int32)) dX12_callBegins_107 (by decide) ?_
    replace hK := mm_bd hK; obtain ⟨h108, e108, hK⟩ := hK
    refine mm_iast C (pc := 108) dX12_callBegins_108 e108 ?_
    refine mm_aload_n C (pc := 109) 1 dX12_callBegins_109 rfl ?_
    refine mm_dup C (pc := 110) dX12_callBegins_110 mm_crf ?_
    replace hK := mm_bd hK; obtain ⟨v111, e111, hK⟩ := hK
    refine mm_geti C (pc := 111) (k := 22) inGX12 rfl (by decide) wd_2021 dX12_callBegins_111 e111 ?_
    refine mm_iconst C (pc := 114) (v := (1 : Int32)) dX12_callBegins_114 (by decide) ?_
    refine mm_iload_n C (pc := 115) 2 dX12_callBegins_115 rfl ?_
    refine mm_ishl C (pc := 116) dX12_callBegins_116 ?_
    refine mm_ior C (pc := 117) dX12_callBegins_117 ?_
    replace hK := mm_bd hK; obtain ⟨h118, e118, hK⟩ := hK
    refine mm_puti C (pc := 118) (k := 22) false (fun z => by cases z) inGX12 tyX12 tyX12_ok nmX12 rfl (by decide) wd_2021 rfl rfl dX12_callBegins_118 e118 ?_
    cases hK
    exact mm_vret C (pc := 121) rfl dX12_callBegins_121 rfl rfl
def F_X12_callBegins_81 (l0 : Option Nat) (l1 : Int32) (l2 : Int32) (l3 : Int32) (h : MH) : Option MH := F_X12_callBegins_91 l0 l1 l2 l3 ((-1) : Int32) h
set_option maxRecDepth 20000 in
set_option maxHeartbeats 4000000 in
theorem w_X12_callBegins_81 {d : Nat} {V : Nat → List (Nat × Value) → List Value → MH → Prop} {hz : MH} (hd : 6 ≤ d) (C : mm_C d yX12_callBegins cX12_callBegins 5 none (.inr none) hz V) (l0 : Option Nat) (l1 : Int32) (l2 : Int32) (l3 : Int32) (h : MH) (hK : F_X12_callBegins_81 l0 l1 l2 l3 h = some hz) : V 81 [(0, va_rf l0), (1, .int l1), (2, .int l2), (3, .int l3)] [] h := by
  unfold F_X12_callBegins_81 at hK
  refine mm_iconst C (pc := 81) (v := ((-1) : Int32)) dX12_callBegins_81 (by decide) ?_
  refine mm_goto C (pc := 82) (tgt := 91) dX12_callBegins_82 (by decide) ?_
  exact w_X12_callBegins_91 hd C _ _ _ _ _ _ hK
def F_X12_callBegins_41 (l0 : Option Nat) (l1 : Int32) (l2 : Int32) (s0 : Int32) (h : MH) : Option MH := if s0 = l2 then (F_X12_callBegins_81 l0 l1 l2 s0 h) else (mm_b2 (cV h l0 12 (F_X12_isShut l0 l2 h)) fun v49 h49 => if v49 = 0 then (mm_b2 (cV h49 l0 12 (F_X12_isShut l0 s0 h49)) fun v57 h57 => if v57 = 0 then (mm_b2 (cV h57 l0 12 (F_X12_busyIn l0 l2 h57)) fun v65 h65 => if v65 = ((-1) : Int32) then (mm_b2 (cV h65 l0 12 (F_X12_busyIn l0 s0 h65)) fun v74 h74 => if v74 = ((-1) : Int32) then (mm_b2 (cV h74 l0 12 (F_X12_freeCord l0 l2 s0 h74)) fun v88 h88 => F_X12_callBegins_91 l0 l1 l2 s0 v88 h88) else (F_X12_callBegins_81 l0 l1 l2 s0 h74)) else (F_X12_callBegins_81 l0 l1 l2 s0 h65)) else (F_X12_callBegins_81 l0 l1 l2 s0 h57)) else (F_X12_callBegins_81 l0 l1 l2 s0 h49))
set_option maxRecDepth 20000 in
set_option maxHeartbeats 4000000 in
theorem w_X12_callBegins_41 {d : Nat} {V : Nat → List (Nat × Value) → List Value → MH → Prop} {hz : MH} (hd : 6 ≤ d) (C : mm_C d yX12_callBegins cX12_callBegins 5 none (.inr none) hz V) (l0 : Option Nat) (l1 : Int32) (l2 : Int32) (s0 : Int32) (h : MH) (hK : F_X12_callBegins_41 l0 l1 l2 s0 h = some hz) : V 41 [(0, va_rf l0), (1, .int l1), (2, .int l2)] [.int s0] h := by
  unfold F_X12_callBegins_41 at hK
  refine mm_istore_n C (pc := 41) (i := 3) (lv' := [(3, .int s0), (0, va_rf l0), (1, .int l1), (2, .int l2)]) dX12_callBegins_41 rfl (by decide) rfl ?_
  refine mm_iload_n C (pc := 42) 0 dX12_callBegins_42 rfl ?_
  refine mm_iload_n C (pc := 43) 3 dX12_callBegins_43 rfl ?_
  refine mm_icmp_eq C (pc := 44) (tgt := 81) dX12_callBegins_44 (by decide) (fun hc => ?_) (fun hc => ?_)
  · replace hK := mm_ip hc hK
    refine mm_sub C [1, 2, 3, 0] rfl ?_
    exact w_X12_callBegins_81 hd C _ _ _ _ _ hK
  · replace hK := mm_in hc hK
    refine mm_aload_n C (pc := 47) 1 dX12_callBegins_47 rfl ?_
    refine mm_iload_n C (pc := 48) 3 dX12_callBegins_48 rfl ?_
    replace hK := mm_b2s hK; obtain ⟨v49, h49, e49, hK⟩ := hK
    obtain ⟨o49, e49⟩ := cV_some e49
    refine mm_callV C (pc := 49) (d1 := 2) (As := [.int l2]) (st := []) (vk := (some (.int v49))) ((S_X12_isShut (by omega)) e49) tT_X12_isShut o49 (Or.inr ⟨_, rfl, rfl⟩) wd_2312 wd_2314 wd_89 (by omega) (by decide) rfl (by simp [mm_crf, mm_cti, mm_ctl]) rfl dX12_callBegins_49 ?_
    show V _ _ (.int v49 :: _) _
    refine mm_if_ne C (pc := 52) (tgt := 81) dX12_callBegins_52 (by decide) (fun hc => ?_) (fun hc => ?_)
    · replace hK := mm_in hc hK
      refine mm_sub C [1, 2, 3, 0] rfl ?_
      exact w_X12_callBegins_81 hd C _ _ _ _ _ hK
    · replace hK := mm_ip hc hK
      refine mm_aload_n C (pc := 55) 1 dX12_callBegins_55 rfl ?_
      refine mm_iload_n C (pc := 56) 0 dX12_callBegins_56 rfl ?_
      replace hK := mm_b2s hK; obtain ⟨v57, h57, e57, hK⟩ := hK
      obtain ⟨o57, e57⟩ := cV_some e57
      refine mm_callV C (pc := 57) (d1 := 2) (As := [.int s0]) (st := []) (vk := (some (.int v57))) ((S_X12_isShut (by omega)) e57) tT_X12_isShut o57 (Or.inr ⟨_, rfl, rfl⟩) wd_2312 wd_2314 wd_89 (by omega) (by decide) rfl (by simp [mm_crf, mm_cti, mm_ctl]) rfl dX12_callBegins_57 ?_
      show V _ _ (.int v57 :: _) _
      refine mm_if_ne C (pc := 60) (tgt := 81) dX12_callBegins_60 (by decide) (fun hc => ?_) (fun hc => ?_)
      · replace hK := mm_in hc hK
        refine mm_sub C [1, 2, 3, 0] rfl ?_
        exact w_X12_callBegins_81 hd C _ _ _ _ _ hK
      · replace hK := mm_ip hc hK
        refine mm_aload_n C (pc := 63) 1 dX12_callBegins_63 rfl ?_
        refine mm_iload_n C (pc := 64) 3 dX12_callBegins_64 rfl ?_
        replace hK := mm_b2s hK; obtain ⟨v65, h65, e65, hK⟩ := hK
        obtain ⟨o65, e65⟩ := cV_some e65
        refine mm_callV C (pc := 65) (d1 := 2) (As := [.int l2]) (st := []) (vk := (some (.int v65))) ((S_X12_busyIn (by omega)) e65) tT_X12_busyIn o65 (Or.inr ⟨_, rfl, rfl⟩) wd_2319 wd_2321 wd_90 (by omega) (by decide) rfl (by simp [mm_crf, mm_cti, mm_ctl]) rfl dX12_callBegins_65 ?_
        show V _ _ (.int v65 :: _) _
        refine mm_iconst C (pc := 68) (v := ((-1) : Int32)) dX12_callBegins_68 (by decide) ?_
        refine mm_icmp_ne C (pc := 69) (tgt := 81) dX12_callBegins_69 (by decide) (fun hc => ?_) (fun hc => ?_)
        · replace hK := mm_in hc hK
          refine mm_sub C [1, 2, 3, 0] rfl ?_
          exact w_X12_callBegins_81 hd C _ _ _ _ _ hK
        · replace hK := mm_ip hc hK
          refine mm_aload_n C (pc := 72) 1 dX12_callBegins_72 rfl ?_
          refine mm_iload_n C (pc := 73) 0 dX12_callBegins_73 rfl ?_
          replace hK := mm_b2s hK; obtain ⟨v74, h74, e74, hK⟩ := hK
          obtain ⟨o74, e74⟩ := cV_some e74
          refine mm_callV C (pc := 74) (d1 := 2) (As := [.int s0]) (st := []) (vk := (some (.int v74))) ((S_X12_busyIn (by omega)) e74) tT_X12_busyIn o74 (Or.inr ⟨_, rfl, rfl⟩) wd_2319 wd_2321 wd_90 (by omega) (by decide) rfl (by simp [mm_crf, mm_cti, mm_ctl]) rfl dX12_callBegins_74 ?_
          show V _ _ (.int v74 :: _) _
          refine mm_iconst C (pc := 77) (v := ((-1) : Int32)) dX12_callBegins_77 (by decide) ?_
          refine mm_icmp_eq C (pc := 78) (tgt := 85) dX12_callBegins_78 (by decide) (fun hc => ?_) (fun hc => ?_)
          · replace hK := mm_ip hc hK
            refine mm_aload_n C (pc := 85) 1 dX12_callBegins_85 rfl ?_
            refine mm_iload_n C (pc := 86) 3 dX12_callBegins_86 rfl ?_
            refine mm_iload_n C (pc := 87) 0 dX12_callBegins_87 rfl ?_
            replace hK := mm_b2s hK; obtain ⟨v88, h88, e88, hK⟩ := hK
            obtain ⟨o88, e88⟩ := cV_some e88
            refine mm_callV C (pc := 88) (d1 := 3) (As := [.int l2, .int s0]) (st := []) (vk := (some (.int v88))) ((S_X12_freeCord (by omega)) e88) tT_X12_freeCord o88 (Or.inr ⟨_, rfl, rfl⟩) wd_2416 wd_2418 wd_102 (by omega) (by decide) rfl (by simp [mm_crf, mm_cti, mm_ctl]) rfl dX12_callBegins_88 ?_
            show V _ _ (.int v88 :: _) _
            refine mm_sub C [1, 2, 3, 0] rfl ?_
            exact w_X12_callBegins_91 hd C _ _ _ _ _ _ hK
          · replace hK := mm_in hc hK
            refine mm_sub C [1, 2, 3, 0] rfl ?_
            exact w_X12_callBegins_81 hd C _ _ _ _ _ hK
def F_X12_callBegins (a0 : Option Nat) (a1 : Int32) (h : MH) : Option MH := (gR h a0 12 0).bind fun v1 => (aI h v1 0 ((51 : Int32) + a1)).bind fun v8 => (gR h a0 12 21).bind fun v11 => (aI h v11 0 a1).bind fun v15 => if v15 = ((-1) : Int32) then ((gR h a0 12 0).bind fun v23 => (aI h v23 0 (47 : Int32)).bind fun v28 => mm_b2 (cV h a0 12 (F_X12_comesBy a0 a1 v28 h)) fun v29 h29 => F_X12_callBegins_41 a0 a1 v8 v29 h29) else ((gR h a0 12 21).bind fun v36 => (aI h v36 0 a1).bind fun v40 => F_X12_callBegins_41 a0 a1 v8 v40 h)
set_option maxRecDepth 20000 in
set_option maxHeartbeats 4000000 in
theorem S_X12_callBegins {d : Nat} (hd : 6 ≤ d) {a0 : Option Nat} {a1 : Int32} {h : MH} {hz : MH} (hK : F_X12_callBegins a0 a1 h = some hz) : mm_M yX12_callBegins cX12_callBegins 5 none d [va_rf a0, .int a1] h (.inr none) hz := by
  refine mm_ofV (by decide +kernel) (by simp [lg_sl, mm_crf, mm_cti, mm_ctl]) (fun V C => ?_)
  rw [show lv_args 0 [va_rf a0, .int a1] = [(0, va_rf a0), (1, .int a1)] by simp [lv_args, mm_crf, mm_cti, mm_ctl]]
  unfold F_X12_callBegins at hK
  refine mm_aload_n C (pc := 0) 0 dX12_callBegins_0 rfl ?_
  replace hK := mm_bd hK; obtain ⟨v1, e1, hK⟩ := hK
  refine mm_getr C (pc := 1) (k := 0) inGX12 rfl (by decide) wd_1999 dX12_callBegins_1 e1 ?_
  refine mm_bipush C (pc := 4) (v := (51 : Int32)) dX12_callBegins_4 (by decide) ?_
  refine mm_iload_n C (pc := 6) 1 dX12_callBegins_6 rfl ?_
  refine mm_iadd C (pc := 7) dX12_callBegins_7 ?_
  replace hK := mm_bd hK; obtain ⟨v8, e8, hK⟩ := hK
  refine mm_iald C (pc := 8) dX12_callBegins_8 e8 ?_
  refine mm_istore_n C (pc := 9) (i := 2) (lv' := [(2, .int v8), (0, va_rf a0), (1, .int a1)]) dX12_callBegins_9 rfl (by decide) rfl ?_
  refine mm_aload_n C (pc := 10) 1 dX12_callBegins_10 rfl ?_
  replace hK := mm_bd hK; obtain ⟨v11, e11, hK⟩ := hK
  refine mm_getr C (pc := 11) (k := 21) inGX12 rfl (by decide) wd_2020 dX12_callBegins_11 e11 ?_
  refine mm_iload_n C (pc := 14) 2 dX12_callBegins_14 rfl ?_
  replace hK := mm_bd hK; obtain ⟨v15, e15, hK⟩ := hK
  refine mm_iald C (pc := 15) dX12_callBegins_15 e15 ?_
  refine mm_iconst C (pc := 16) (v := ((-1) : Int32)) dX12_callBegins_16 (by decide) ?_
  refine mm_icmp_ne C (pc := 17) (tgt := 35) dX12_callBegins_17 (by decide) (fun hc => ?_) (fun hc => ?_)
  · replace hK := mm_in hc hK
    refine mm_aload_n C (pc := 35) 1 dX12_callBegins_35 rfl ?_
    replace hK := mm_bd hK; obtain ⟨v36, e36, hK⟩ := hK
    refine mm_getr C (pc := 36) (k := 21) inGX12 rfl (by decide) wd_2020 dX12_callBegins_36 e36 ?_
    refine mm_iload_n C (pc := 39) 2 dX12_callBegins_39 rfl ?_
    replace hK := mm_bd hK; obtain ⟨v40, e40, hK⟩ := hK
    refine mm_iald C (pc := 40) dX12_callBegins_40 e40 ?_
    refine mm_sub C [1, 2, 0] rfl ?_
    exact w_X12_callBegins_41 hd C _ _ _ _ _ hK
  · replace hK := mm_ip hc hK
    refine mm_aload_n C (pc := 20) 1 dX12_callBegins_20 rfl ?_
    refine mm_iload_n C (pc := 21) 2 dX12_callBegins_21 rfl ?_
    refine mm_aload_n C (pc := 22) 1 dX12_callBegins_22 rfl ?_
    replace hK := mm_bd hK; obtain ⟨v23, e23, hK⟩ := hK
    refine mm_getr C (pc := 23) (k := 0) inGX12 rfl (by decide) wd_1999 dX12_callBegins_23 e23 ?_
    refine mm_bipush C (pc := 26) (v := (47 : Int32)) dX12_callBegins_26 (by decide) ?_
    replace hK := mm_bd hK; obtain ⟨v28, e28, hK⟩ := hK
    refine mm_iald C (pc := 28) dX12_callBegins_28 e28 ?_
    replace hK := mm_b2s hK; obtain ⟨v29, h29, e29, hK⟩ := hK
    obtain ⟨o29, e29⟩ := cV_some e29
    refine mm_callV C (pc := 29) (d1 := 4) (As := [.int a1, .int v28]) (st := []) (vk := (some (.int v29))) ((S_X12_comesBy (by omega)) e29) tT_X12_comesBy o29 (Or.inr ⟨_, rfl, rfl⟩) wd_2371 wd_2373 wd_95 (by omega) (by decide) rfl (by simp [mm_crf, mm_cti, mm_ctl]) rfl dX12_callBegins_29 ?_
    show V _ _ (.int v29 :: _) _
    refine mm_goto C (pc := 32) (tgt := 41) dX12_callBegins_32 (by decide) ?_
    refine mm_sub C [1, 2, 0] rfl ?_
    exact w_X12_callBegins_41 hd C _ _ _ _ _ hK
theorem wd_2415 : Cond.code yX12_callBegins cX12_callBegins 5 none ∈ lw_good := mm_wd 2415 (by decide +kernel) (by decide +kernel)
theorem tT_X12_callBegins : mm_T yX12_callBegins cX12_callBegins 5 none 1 := ⟨wd_2415, wd_170, by decide +kernel, by decide +kernel, by decide +kernel, by decide +kernel⟩
theorem wd_2412 : Cond.methodLink RX12 325 yX12_callBegins ∈ lw_good := mm_wd 2412 (by decide +kernel) (by decide +kernel)
theorem wd_2414 : Cond.instanceMethod yX12_callBegins ∈ lw_good := mm_wd 2414 (by decide +kernel) (by decide +kernel)
theorem wd_101 : Cond.selects RX12 yX12_callBegins yX12_callBegins ∈ lw_good := mm_wd 101 (by decide +kernel) (by decide +kernel)
def F_X12_minute_119 (k75 : Option Nat → Int32 → MH → Option MH) (l0 : Option Nat) (l1 : Int32) (h : MH) : Option MH := k75 l0 (l1 + (1 : Int32)) h
set_option maxRecDepth 20000 in
set_option maxHeartbeats 4000000 in
theorem w_X12_minute_119 {d : Nat} {V : Nat → List (Nat × Value) → List Value → MH → Prop} {hz : MH} {k75 : Option Nat → Int32 → MH → Option MH} (hd : 7 ≤ d) (C : mm_C d yX12_minute cX12_minute 2 none (.inr none) hz V) (q75 : ∀ (x0 : Option Nat) (x1 : Int32) (h : MH), k75 x0 x1 h = some hz → V 75 [(0, va_rf x0), (1, .int x1)] [] h) (l0 : Option Nat) (l1 : Int32) (h : MH) (hK : F_X12_minute_119 k75 l0 l1 h = some hz) : V 119 [(0, va_rf l0), (1, .int l1)] [] h := by
  unfold F_X12_minute_119 at hK
  refine mm_iinc C (pc := 119) (v := (l1 + (1 : Int32))) (lv' := [(1, .int (l1 + (1 : Int32))), (0, va_rf l0)]) 1 dX12_minute_119 rfl rfl (by decide) (by simp [mm_crf]) ?_
  refine mm_goto C (pc := 122) (tgt := 75) dX12_minute_122 (by decide) ?_
  refine mm_sub C [1, 0] rfl ?_
  exact q75 _ _ _ hK
def F_X12_minute_75 : Nat → Option Nat → Int32 → MH → Option MH
  | 0 => fun _ _ _ => none
  | n + 1 => fun l0 l1 h => mm_b2 (cV h l0 12 (F_X12_calls l0 h)) fun v77 h77 => if v77 ≤ l1 then ((gR h77 l0 12 0).bind fun v126 => (aI h77 v126 0 (47 : Int32)).bind fun v132 => (sI h77 v126 0 (47 : Int32) (v132 + (1 : Int32))).bind fun h135 => some h135) else ((gR h77 l0 12 0).bind fun v84 => (aI h77 v84 0 ((8 : Int32) + l1)).bind fun v91 => if v91 = 0 then ((gR h77 l0 12 0).bind fun v96 => (aI h77 v96 0 ((71 : Int32) + l1)).bind fun v103 => (gR h77 l0 12 0).bind fun v105 => (aI h77 v105 0 (47 : Int32)).bind fun v110 => if v103 = v110 then ((cV h77 l0 12 (F_X12_callBegins l0 l1 h77)).bind fun h116 => F_X12_minute_119 (F_X12_minute_75 n) l0 l1 h116) else (F_X12_minute_119 (F_X12_minute_75 n) l0 l1 h77)) else (F_X12_minute_119 (F_X12_minute_75 n) l0 l1 h77))
set_option maxRecDepth 20000 in
set_option maxHeartbeats 4000000 in
theorem w_X12_minute_75 {d : Nat} {V : Nat → List (Nat × Value) → List Value → MH → Prop} {hz : MH} (hd : 7 ≤ d) (C : mm_C d yX12_minute cX12_minute 2 none (.inr none) hz V) : ∀ (n : Nat) (l0 : Option Nat) (l1 : Int32) (h : MH), F_X12_minute_75 n l0 l1 h = some hz → V 75 [(0, va_rf l0), (1, .int l1)] [] h := by
  intro n
  induction n with
  | zero => intro l0 l1 h hK; cases hK
  | succ n ih =>
    intro l0 l1 h hK
    replace hK : (mm_b2 (cV h l0 12 (F_X12_calls l0 h)) fun v77 h77 => if v77 ≤ l1 then ((gR h77 l0 12 0).bind fun v126 => (aI h77 v126 0 (47 : Int32)).bind fun v132 => (sI h77 v126 0 (47 : Int32) (v132 + (1 : Int32))).bind fun h135 => some h135) else ((gR h77 l0 12 0).bind fun v84 => (aI h77 v84 0 ((8 : Int32) + l1)).bind fun v91 => if v91 = 0 then ((gR h77 l0 12 0).bind fun v96 => (aI h77 v96 0 ((71 : Int32) + l1)).bind fun v103 => (gR h77 l0 12 0).bind fun v105 => (aI h77 v105 0 (47 : Int32)).bind fun v110 => if v103 = v110 then ((cV h77 l0 12 (F_X12_callBegins l0 l1 h77)).bind fun h116 => F_X12_minute_119 (F_X12_minute_75 n) l0 l1 h116) else (F_X12_minute_119 (F_X12_minute_75 n) l0 l1 h77)) else (F_X12_minute_119 (F_X12_minute_75 n) l0 l1 h77))) = some hz := hK
    refine mm_iload_n C (pc := 75) 1 dX12_minute_75 rfl ?_
    refine mm_aload_n C (pc := 76) 0 dX12_minute_76 rfl ?_
    replace hK := mm_b2s hK; obtain ⟨v77, h77, e77, hK⟩ := hK
    obtain ⟨o77, e77⟩ := cV_some e77
    refine mm_callV C (pc := 77) (d1 := 1) (As := []) (st := [.int l1]) (vk := (some (.int v77))) ((S_X12_calls (by omega)) e77) tT_X12_calls o77 (Or.inr ⟨_, rfl, rfl⟩) wd_2295 wd_2297 wd_87 (by omega) (by decide) rfl (by simp [mm_crf, mm_cti, mm_ctl]) rfl dX12_minute_77 ?_
    show V _ _ (.int v77 :: _) _
    refine mm_icmp_ge C (pc := 80) (tgt := 125) dX12_minute_80 (by decide) (fun hc => ?_) (fun hc => ?_)
    · replace hK := mm_ip hc hK
      refine mm_aload_n C (pc := 125) 0 dX12_minute_125 rfl ?_
      replace hK := mm_bd hK; obtain ⟨v126, e126, hK⟩ := hK
      refine mm_getr C (pc := 126) (k := 0) inGX12 rfl (by decide) wd_1999 dX12_minute_126 e126 ?_
      refine mm_bipush C (pc := 129) (v := (47 : Int32)) dX12_minute_129 (by decide) ?_
      refine mm_dup2 C (pc := 131) dX12_minute_131 rfl mm_crf ?_
      replace hK := mm_bd hK; obtain ⟨v132, e132, hK⟩ := hK
      refine mm_iald C (pc := 132) dX12_minute_132 e132 ?_
      refine mm_iconst C (pc := 133) (v := (1 : Int32)) dX12_minute_133 (by decide) ?_
      refine mm_iadd C (pc := 134) dX12_minute_134 ?_
      replace hK := mm_bd hK; obtain ⟨h135, e135, hK⟩ := hK
      refine mm_iast C (pc := 135) dX12_minute_135 e135 ?_
      cases hK
      exact mm_vret C (pc := 136) rfl dX12_minute_136 rfl rfl
    · replace hK := mm_in hc hK
      refine mm_aload_n C (pc := 83) 0 dX12_minute_83 rfl ?_
      replace hK := mm_bd hK; obtain ⟨v84, e84, hK⟩ := hK
      refine mm_getr C (pc := 84) (k := 0) inGX12 rfl (by decide) wd_1999 dX12_minute_84 e84 ?_
      refine mm_bipush C (pc := 87) (v := (8 : Int32)) dX12_minute_87 (by decide) ?_
      refine mm_iload_n C (pc := 89) 1 dX12_minute_89 rfl ?_
      refine mm_iadd C (pc := 90) dX12_minute_90 ?_
      replace hK := mm_bd hK; obtain ⟨v91, e91, hK⟩ := hK
      refine mm_iald C (pc := 91) dX12_minute_91 e91 ?_
      refine mm_if_ne C (pc := 92) (tgt := 119) dX12_minute_92 (by decide) (fun hc => ?_) (fun hc => ?_)
      · replace hK := mm_in hc hK
        exact w_X12_minute_119 hd C (fun z0 z1 z2 hK => ih z0 z1 z2 hK) _ _ _ hK
      · replace hK := mm_ip hc hK
        refine mm_aload_n C (pc := 95) 0 dX12_minute_95 rfl ?_
        replace hK := mm_bd hK; obtain ⟨v96, e96, hK⟩ := hK
        refine mm_getr C (pc := 96) (k := 0) inGX12 rfl (by decide) wd_1999 dX12_minute_96 e96 ?_
        refine mm_bipush C (pc := 99) (v := (71 : Int32)) dX12_minute_99 (by decide) ?_
        refine mm_iload_n C (pc := 101) 1 dX12_minute_101 rfl ?_
        refine mm_iadd C (pc := 102) dX12_minute_102 ?_
        replace hK := mm_bd hK; obtain ⟨v103, e103, hK⟩ := hK
        refine mm_iald C (pc := 103) dX12_minute_103 e103 ?_
        refine mm_aload_n C (pc := 104) 0 dX12_minute_104 rfl ?_
        replace hK := mm_bd hK; obtain ⟨v105, e105, hK⟩ := hK
        refine mm_getr C (pc := 105) (k := 0) inGX12 rfl (by decide) wd_1999 dX12_minute_105 e105 ?_
        refine mm_bipush C (pc := 108) (v := (47 : Int32)) dX12_minute_108 (by decide) ?_
        replace hK := mm_bd hK; obtain ⟨v110, e110, hK⟩ := hK
        refine mm_iald C (pc := 110) dX12_minute_110 e110 ?_
        refine mm_icmp_ne C (pc := 111) (tgt := 119) dX12_minute_111 (by decide) (fun hc => ?_) (fun hc => ?_)
        · replace hK := mm_in hc hK
          exact w_X12_minute_119 hd C (fun z0 z1 z2 hK => ih z0 z1 z2 hK) _ _ _ hK
        · replace hK := mm_ip hc hK
          refine mm_aload_n C (pc := 114) 0 dX12_minute_114 rfl ?_
          refine mm_iload_n C (pc := 115) 1 dX12_minute_115 rfl ?_
          replace hK := mm_bd hK; obtain ⟨h116, e116, hK⟩ := hK
          obtain ⟨o116, e116⟩ := cV_some e116
          refine mm_callV C (pc := 116) (d1 := 6) (As := [.int l1]) (st := []) (vk := none) ((S_X12_callBegins (by omega)) e116) tT_X12_callBegins o116 (Or.inr ⟨_, rfl, rfl⟩) wd_2412 wd_2414 wd_101 (by omega) (by decide) rfl (by simp [mm_crf, mm_cti, mm_ctl]) rfl dX12_minute_116 ?_
          show V _ _ [] _
          exact w_X12_minute_119 hd C (fun z0 z1 z2 hK => ih z0 z1 z2 hK) _ _ _ hK
def F_X12_minute_67 (k7 : Option Nat → Int32 → MH → Option MH) (l0 : Option Nat) (l1 : Int32) (h : MH) : Option MH := k7 l0 (l1 + (1 : Int32)) h
set_option maxRecDepth 20000 in
set_option maxHeartbeats 4000000 in
theorem w_X12_minute_67 {d : Nat} {V : Nat → List (Nat × Value) → List Value → MH → Prop} {hz : MH} {k7 : Option Nat → Int32 → MH → Option MH} (hd : 7 ≤ d) (C : mm_C d yX12_minute cX12_minute 2 none (.inr none) hz V) (q7 : ∀ (x0 : Option Nat) (x1 : Int32) (h : MH), k7 x0 x1 h = some hz → V 7 [(0, va_rf x0), (1, .int x1)] [] h) (l0 : Option Nat) (l1 : Int32) (h : MH) (hK : F_X12_minute_67 k7 l0 l1 h = some hz) : V 67 [(0, va_rf l0), (1, .int l1)] [] h := by
  unfold F_X12_minute_67 at hK
  refine mm_iinc C (pc := 67) (v := (l1 + (1 : Int32))) (lv' := [(1, .int (l1 + (1 : Int32))), (0, va_rf l0)]) 1 dX12_minute_67 rfl rfl (by decide) (by simp [mm_crf]) ?_
  refine mm_goto C (pc := 70) (tgt := 7) dX12_minute_70 (by decide) ?_
  refine mm_sub C [1, 0] rfl ?_
  exact q7 _ _ _ hK
def F_X12_minute_7 : Nat → Option Nat → Int32 → MH → Option MH
  | 0 => fun _ _ _ => none
  | n + 1 => fun l0 l1 h => mm_b2 (cV h l0 12 (F_X12_calls l0 h)) fun v9 h9 => if v9 ≤ l1 then (F_X12_minute_75 mm_N l0 (0 : Int32) h9) else ((gR h9 l0 12 0).bind fun v16 => (aI h9 v16 0 ((8 : Int32) + l1)).bind fun v23 => if v23 = (1 : Int32) then ((gR h9 l0 12 0).bind fun v29 => (aI h9 v29 0 ((71 : Int32) + l1)).bind fun v36 => (gR h9 l0 12 0).bind fun v38 => (aI h9 v38 0 ((81 : Int32) + l1)).bind fun v45 => (gR h9 l0 12 0).bind fun v48 => (aI h9 v48 0 (47 : Int32)).bind fun v53 => if v53 < (v36 + v45) then (F_X12_minute_67 (F_X12_minute_7 n) l0 l1 h9) else ((gR h9 l0 12 0).bind fun v58 => (sI h9 v58 0 ((8 : Int32) + l1) (2 : Int32)).bind fun h66 => F_X12_minute_67 (F_X12_minute_7 n) l0 l1 h66)) else (F_X12_minute_67 (F_X12_minute_7 n) l0 l1 h9))
set_option maxRecDepth 20000 in
set_option maxHeartbeats 4000000 in
theorem w_X12_minute_7 {d : Nat} {V : Nat → List (Nat × Value) → List Value → MH → Prop} {hz : MH} (hd : 7 ≤ d) (C : mm_C d yX12_minute cX12_minute 2 none (.inr none) hz V) : ∀ (n : Nat) (l0 : Option Nat) (l1 : Int32) (h : MH), F_X12_minute_7 n l0 l1 h = some hz → V 7 [(0, va_rf l0), (1, .int l1)] [] h := by
  intro n
  induction n with
  | zero => intro l0 l1 h hK; cases hK
  | succ n ih =>
    intro l0 l1 h hK
    replace hK : (mm_b2 (cV h l0 12 (F_X12_calls l0 h)) fun v9 h9 => if v9 ≤ l1 then (F_X12_minute_75 mm_N l0 (0 : Int32) h9) else ((gR h9 l0 12 0).bind fun v16 => (aI h9 v16 0 ((8 : Int32) + l1)).bind fun v23 => if v23 = (1 : Int32) then ((gR h9 l0 12 0).bind fun v29 => (aI h9 v29 0 ((71 : Int32) + l1)).bind fun v36 => (gR h9 l0 12 0).bind fun v38 => (aI h9 v38 0 ((81 : Int32) + l1)).bind fun v45 => (gR h9 l0 12 0).bind fun v48 => (aI h9 v48 0 (47 : Int32)).bind fun v53 => if v53 < (v36 + v45) then (F_X12_minute_67 (F_X12_minute_7 n) l0 l1 h9) else ((gR h9 l0 12 0).bind fun v58 => (sI h9 v58 0 ((8 : Int32) + l1) (2 : Int32)).bind fun h66 => F_X12_minute_67 (F_X12_minute_7 n) l0 l1 h66)) else (F_X12_minute_67 (F_X12_minute_7 n) l0 l1 h9))) = some hz := hK
    refine mm_iload_n C (pc := 7) 1 dX12_minute_7 rfl ?_
    refine mm_aload_n C (pc := 8) 0 dX12_minute_8 rfl ?_
    replace hK := mm_b2s hK; obtain ⟨v9, h9, e9, hK⟩ := hK
    obtain ⟨o9, e9⟩ := cV_some e9
    refine mm_callV C (pc := 9) (d1 := 1) (As := []) (st := [.int l1]) (vk := (some (.int v9))) ((S_X12_calls (by omega)) e9) tT_X12_calls o9 (Or.inr ⟨_, rfl, rfl⟩) wd_2295 wd_2297 wd_87 (by omega) (by decide) rfl (by simp [mm_crf, mm_cti, mm_ctl]) rfl dX12_minute_9 ?_
    show V _ _ (.int v9 :: _) _
    refine mm_icmp_ge C (pc := 12) (tgt := 73) dX12_minute_12 (by decide) (fun hc => ?_) (fun hc => ?_)
    · replace hK := mm_ip hc hK
      refine mm_iconst C (pc := 73) (v := (0 : Int32)) dX12_minute_73 (by decide) ?_
      refine mm_istore_n C (pc := 74) (i := 1) (lv' := [(1, .int (0 : Int32)), (0, va_rf l0)]) dX12_minute_74 rfl (by decide) (by simp [mm_crf]) ?_
      refine mm_sub C [1, 0] rfl ?_
      exact w_X12_minute_75 hd C _ _ _ _ hK
    · replace hK := mm_in hc hK
      refine mm_aload_n C (pc := 15) 0 dX12_minute_15 rfl ?_
      replace hK := mm_bd hK; obtain ⟨v16, e16, hK⟩ := hK
      refine mm_getr C (pc := 16) (k := 0) inGX12 rfl (by decide) wd_1999 dX12_minute_16 e16 ?_
      refine mm_bipush C (pc := 19) (v := (8 : Int32)) dX12_minute_19 (by decide) ?_
      refine mm_iload_n C (pc := 21) 1 dX12_minute_21 rfl ?_
      refine mm_iadd C (pc := 22) dX12_minute_22 ?_
      replace hK := mm_bd hK; obtain ⟨v23, e23, hK⟩ := hK
      refine mm_iald C (pc := 23) dX12_minute_23 e23 ?_
      refine mm_iconst C (pc := 24) (v := (1 : Int32)) dX12_minute_24 (by decide) ?_
      refine mm_icmp_ne C (pc := 25) (tgt := 67) dX12_minute_25 (by decide) (fun hc => ?_) (fun hc => ?_)
      · replace hK := mm_in hc hK
        exact w_X12_minute_67 hd C (fun z0 z1 z2 hK => ih z0 z1 z2 hK) _ _ _ hK
      · replace hK := mm_ip hc hK
        refine mm_aload_n C (pc := 28) 0 dX12_minute_28 rfl ?_
        replace hK := mm_bd hK; obtain ⟨v29, e29, hK⟩ := hK
        refine mm_getr C (pc := 29) (k := 0) inGX12 rfl (by decide) wd_1999 dX12_minute_29 e29 ?_
        refine mm_bipush C (pc := 32) (v := (71 : Int32)) dX12_minute_32 (by decide) ?_
        refine mm_iload_n C (pc := 34) 1 dX12_minute_34 rfl ?_
        refine mm_iadd C (pc := 35) dX12_minute_35 ?_
        replace hK := mm_bd hK; obtain ⟨v36, e36, hK⟩ := hK
        refine mm_iald C (pc := 36) dX12_minute_36 e36 ?_
        refine mm_aload_n C (pc := 37) 0 dX12_minute_37 rfl ?_
        replace hK := mm_bd hK; obtain ⟨v38, e38, hK⟩ := hK
        refine mm_getr C (pc := 38) (k := 0) inGX12 rfl (by decide) wd_1999 dX12_minute_38 e38 ?_
        refine mm_bipush C (pc := 41) (v := (81 : Int32)) dX12_minute_41 (by decide) ?_
        refine mm_iload_n C (pc := 43) 1 dX12_minute_43 rfl ?_
        refine mm_iadd C (pc := 44) dX12_minute_44 ?_
        replace hK := mm_bd hK; obtain ⟨v45, e45, hK⟩ := hK
        refine mm_iald C (pc := 45) dX12_minute_45 e45 ?_
        refine mm_iadd C (pc := 46) dX12_minute_46 ?_
        refine mm_aload_n C (pc := 47) 0 dX12_minute_47 rfl ?_
        replace hK := mm_bd hK; obtain ⟨v48, e48, hK⟩ := hK
        refine mm_getr C (pc := 48) (k := 0) inGX12 rfl (by decide) wd_1999 dX12_minute_48 e48 ?_
        refine mm_bipush C (pc := 51) (v := (47 : Int32)) dX12_minute_51 (by decide) ?_
        replace hK := mm_bd hK; obtain ⟨v53, e53, hK⟩ := hK
        refine mm_iald C (pc := 53) dX12_minute_53 e53 ?_
        refine mm_icmp_gt C (pc := 54) (tgt := 67) dX12_minute_54 (by decide) (fun hc => ?_) (fun hc => ?_)
        · replace hK := mm_ip hc hK
          exact w_X12_minute_67 hd C (fun z0 z1 z2 hK => ih z0 z1 z2 hK) _ _ _ hK
        · replace hK := mm_in hc hK
          refine mm_aload_n C (pc := 57) 0 dX12_minute_57 rfl ?_
          replace hK := mm_bd hK; obtain ⟨v58, e58, hK⟩ := hK
          refine mm_getr C (pc := 58) (k := 0) inGX12 rfl (by decide) wd_1999 dX12_minute_58 e58 ?_
          refine mm_bipush C (pc := 61) (v := (8 : Int32)) dX12_minute_61 (by decide) ?_
          refine mm_iload_n C (pc := 63) 1 dX12_minute_63 rfl ?_
          refine mm_iadd C (pc := 64) dX12_minute_64 ?_
          refine mm_iconst C (pc := 65) (v := (2 : Int32)) dX12_minute_65 (by decide) ?_
          replace hK := mm_bd hK; obtain ⟨h66, e66, hK⟩ := hK
          refine mm_iast C (pc := 66) dX12_minute_66 e66 ?_
          exact w_X12_minute_67 hd C (fun z0 z1 z2 hK => ih z0 z1 z2 hK) _ _ _ hK
def F_X12_minute (a0 : Option Nat) (h : MH) : Option MH := (pI h a0 12 22 (0 : Int32)).bind fun h2 => F_X12_minute_7 mm_N a0 (0 : Int32) h2
set_option maxRecDepth 20000 in
set_option maxHeartbeats 4000000 in
theorem S_X12_minute {d : Nat} (hd : 7 ≤ d) {a0 : Option Nat} {h : MH} {hz : MH} (hK : F_X12_minute a0 h = some hz) : mm_M yX12_minute cX12_minute 2 none d [va_rf a0] h (.inr none) hz := by
  refine mm_ofV (by decide +kernel) (by simp [lg_sl, mm_crf, mm_cti, mm_ctl]) (fun V C => ?_)
  rw [show lv_args 0 [va_rf a0] = [(0, va_rf a0)] by simp [lv_args, mm_crf, mm_cti, mm_ctl]]
  unfold F_X12_minute at hK
  refine mm_aload_n C (pc := 0) 0 dX12_minute_0 rfl ?_
  refine mm_iconst C (pc := 1) (v := (0 : Int32)) dX12_minute_1 (by decide) ?_
  replace hK := mm_bd hK; obtain ⟨h2, e2, hK⟩ := hK
  refine mm_puti C (pc := 2) (k := 22) false (fun z => by cases z) inGX12 tyX12 tyX12_ok nmX12 rfl (by decide) wd_2021 rfl rfl dX12_minute_2 e2 ?_
  refine mm_iconst C (pc := 5) (v := (0 : Int32)) dX12_minute_5 (by decide) ?_
  refine mm_istore_n C (pc := 6) (i := 1) (lv' := [(1, .int (0 : Int32)), (0, va_rf a0)]) dX12_minute_6 rfl (by decide) (by simp [mm_crf]) ?_
  refine mm_sub C [1, 0] rfl ?_
  exact w_X12_minute_7 hd C _ _ _ _ hK
theorem wd_2310 : Cond.code yX12_isLine cX12_isLine 3 (some .boolean) ∈ lw_good := mm_wd 2310 (by decide +kernel) (by decide +kernel)
theorem tT_X12_isLine : mm_T yX12_isLine cX12_isLine 3 (some .boolean) 1 := ⟨wd_2310, wd_170, by decide +kernel, by decide +kernel, by decide +kernel, by decide +kernel⟩
theorem wd_2307 : Cond.methodLink RX12 328 yX12_isLine ∈ lw_good := mm_wd 2307 (by decide +kernel) (by decide +kernel)
theorem wd_2309 : Cond.instanceMethod yX12_isLine ∈ lw_good := mm_wd 2309 (by decide +kernel) (by decide +kernel)
theorem wd_88 : Cond.selects RX12 yX12_isLine yX12_isLine ∈ lw_good := mm_wd 88 (by decide +kernel) (by decide +kernel)
theorem wd_2311 : Cond.constantLong RX12 332 (2 : Int64) ∈ lw_good := mm_wd 2311 (by decide +kernel) (by decide +kernel)
def F_X12_line_127 (s0 : Int32) (h : MH) : Option (Int32 × MH) := some (s0, h)
set_option maxRecDepth 20000 in
set_option maxHeartbeats 4000000 in
theorem w_X12_line_127 {d : Nat} {V : Nat → List (Nat × Value) → List Value → MH → Prop} {r : Int32} {hz : MH} (hd : 3 ≤ d) (C : mm_C d yX12_line cX12_line 4 (some .int) (.inr (some (.int r))) hz V) (s0 : Int32) (h : MH) (hK : F_X12_line_127 s0 h = some (r, hz)) : V 127 [] [.int s0] h := by
  unfold F_X12_line_127 at hK
  cases hK
  exact mm_iret C (pc := 127) rfl dX12_line_127 rfl rfl
def F_X12_line_77 (s0 : Int32) (h : MH) : Option (Int32 × MH) := some (s0, h)
set_option maxRecDepth 20000 in
set_option maxHeartbeats 4000000 in
theorem w_X12_line_77 {d : Nat} {V : Nat → List (Nat × Value) → List Value → MH → Prop} {r : Int32} {hz : MH} (hd : 3 ≤ d) (C : mm_C d yX12_line cX12_line 4 (some .int) (.inr (some (.int r))) hz V) (s0 : Int32) (h : MH) (hK : F_X12_line_77 s0 h = some (r, hz)) : V 77 [] [.int s0] h := by
  unfold F_X12_line_77 at hK
  cases hK
  exact mm_iret C (pc := 77) rfl dX12_line_77 rfl rfl
def F_X12_line_31 (l0 : Option Nat) (l1 : Int32) (l2 : Int32) (s0 : Int32) (s1 : Option Nat) (h : MH) : Option (Int32 × MH) := (pI h s1 12 4 s0).bind fun h31 => (gI h31 l0 12 4).bind fun v35 => if v35 ≤ 0 then (if l2 ≤ 0 then (mm_b2 (cV h31 l0 12 (F_X12_busyIn l0 l1 h31)) fun v80 h80 => if v80 = ((-1) : Int32) then (F_X12_line_127 ((-1) : Int32) h80) else ((gR h80 l0 12 0).bind fun v94 => (aI h80 v94 0 ((51 : Int32) + v80)).bind fun v101 => if v101 = l1 then ((gR h80 l0 12 0).bind fun v107 => (aI h80 v107 0 ((18 : Int32) + v80)).bind fun v114 => F_X12_line_127 v114 h80) else ((gR h80 l0 12 0).bind fun v119 => (aI h80 v119 0 ((51 : Int32) + v80)).bind fun v126 => F_X12_line_127 v126 h80))) else (if l2 = (1 : Int32) then ((gR h31 l0 12 0).bind fun v53 => (aI h31 v53 0 ((38 : Int32) + l1)).bind fun v60 => F_X12_line_77 v60 h31) else (mm_b2 (cV h31 l0 12 (F_X12_isShut l0 l1 h31)) fun v66 h66 => if v66 = 0 then (F_X12_line_77 (0 : Int32) h66) else (F_X12_line_77 (1 : Int32) h66)))) else (some ((0 : Int32), h31))
set_option maxRecDepth 20000 in
set_option maxHeartbeats 4000000 in
theorem w_X12_line_31 {d : Nat} {V : Nat → List (Nat × Value) → List Value → MH → Prop} {r : Int32} {hz : MH} (hd : 3 ≤ d) (C : mm_C d yX12_line cX12_line 4 (some .int) (.inr (some (.int r))) hz V) (l0 : Option Nat) (l1 : Int32) (l2 : Int32) (s0 : Int32) (s1 : Option Nat) (h : MH) (hK : F_X12_line_31 l0 l1 l2 s0 s1 h = some (r, hz)) : V 31 [(0, va_rf l0), (1, .int l1), (2, .int l2)] [.int s0, va_rf s1] h := by
  unfold F_X12_line_31 at hK
  replace hK := mm_bd hK; obtain ⟨h31, e31, hK⟩ := hK
  refine mm_puti C (pc := 31) (k := 4) false (fun z => by cases z) inGX12 tyX12 tyX12_ok nmX12 rfl (by decide) wd_2003 rfl rfl dX12_line_31 e31 ?_
  refine mm_aload_n C (pc := 34) 0 dX12_line_34 rfl ?_
  replace hK := mm_bd hK; obtain ⟨v35, e35, hK⟩ := hK
  refine mm_geti C (pc := 35) (k := 4) inGX12 rfl (by decide) wd_2003 dX12_line_35 e35 ?_
  refine mm_if_le C (pc := 38) (tgt := 43) dX12_line_38 (by decide) (fun hc => ?_) (fun hc => ?_)
  · replace hK := mm_ip hc hK
    refine mm_iload_n C (pc := 43) 2 dX12_line_43 rfl ?_
    refine mm_if_le C (pc := 44) (tgt := 78) dX12_line_44 (by decide) (fun hc => ?_) (fun hc => ?_)
    · replace hK := mm_ip hc hK
      refine mm_aload_n C (pc := 78) 0 dX12_line_78 rfl ?_
      refine mm_iload_n C (pc := 79) 1 dX12_line_79 rfl ?_
      replace hK := mm_b2s hK; obtain ⟨v80, h80, e80, hK⟩ := hK
      obtain ⟨o80, e80⟩ := cV_some e80
      refine mm_callV C (pc := 80) (d1 := 2) (As := [.int l1]) (st := []) (vk := (some (.int v80))) ((S_X12_busyIn (by omega)) e80) tT_X12_busyIn o80 (Or.inr ⟨_, rfl, rfl⟩) wd_2319 wd_2321 wd_90 (by omega) (by decide) rfl (by simp [mm_crf, mm_cti, mm_ctl]) rfl dX12_line_80 ?_
      show V _ _ (.int v80 :: _) _
      refine mm_istore_n C (pc := 83) (i := 3) (lv' := [(3, .int v80), (0, va_rf l0), (1, .int l1), (2, .int l2)]) dX12_line_83 rfl (by decide) rfl ?_
      refine mm_iload_n C (pc := 84) 0 dX12_line_84 rfl ?_
      refine mm_iconst C (pc := 85) (v := ((-1) : Int32)) dX12_line_85 (by decide) ?_
      refine mm_icmp_ne C (pc := 86) (tgt := 93) dX12_line_86 (by decide) (fun hc => ?_) (fun hc => ?_)
      · replace hK := mm_in hc hK
        refine mm_aload_n C (pc := 93) 1 dX12_line_93 rfl ?_
        replace hK := mm_bd hK; obtain ⟨v94, e94, hK⟩ := hK
        refine mm_getr C (pc := 94) (k := 0) inGX12 rfl (by decide) wd_1999 dX12_line_94 e94 ?_
        refine mm_bipush C (pc := 97) (v := (51 : Int32)) dX12_line_97 (by decide) ?_
        refine mm_iload_n C (pc := 99) 0 dX12_line_99 rfl ?_
        refine mm_iadd C (pc := 100) dX12_line_100 ?_
        replace hK := mm_bd hK; obtain ⟨v101, e101, hK⟩ := hK
        refine mm_iald C (pc := 101) dX12_line_101 e101 ?_
        refine mm_iload_n C (pc := 102) 2 dX12_line_102 rfl ?_
        refine mm_icmp_ne C (pc := 103) (tgt := 118) dX12_line_103 (by decide) (fun hc => ?_) (fun hc => ?_)
        · replace hK := mm_in hc hK
          refine mm_aload_n C (pc := 118) 1 dX12_line_118 rfl ?_
          replace hK := mm_bd hK; obtain ⟨v119, e119, hK⟩ := hK
          refine mm_getr C (pc := 119) (k := 0) inGX12 rfl (by decide) wd_1999 dX12_line_119 e119 ?_
          refine mm_bipush C (pc := 122) (v := (51 : Int32)) dX12_line_122 (by decide) ?_
          refine mm_iload_n C (pc := 124) 0 dX12_line_124 rfl ?_
          refine mm_iadd C (pc := 125) dX12_line_125 ?_
          replace hK := mm_bd hK; obtain ⟨v126, e126, hK⟩ := hK
          refine mm_iald C (pc := 126) dX12_line_126 e126 ?_
          refine mm_sub C [] rfl ?_
          exact w_X12_line_127 hd C _ _ hK
        · replace hK := mm_ip hc hK
          refine mm_aload_n C (pc := 106) 1 dX12_line_106 rfl ?_
          replace hK := mm_bd hK; obtain ⟨v107, e107, hK⟩ := hK
          refine mm_getr C (pc := 107) (k := 0) inGX12 rfl (by decide) wd_1999 dX12_line_107 e107 ?_
          refine mm_bipush C (pc := 110) (v := (18 : Int32)) dX12_line_110 (by decide) ?_
          refine mm_iload_n C (pc := 112) 0 dX12_line_112 rfl ?_
          refine mm_iadd C (pc := 113) dX12_line_113 ?_
          replace hK := mm_bd hK; obtain ⟨v114, e114, hK⟩ := hK
          refine mm_iald C (pc := 114) dX12_line_114 e114 ?_
          refine mm_goto C (pc := 115) (tgt := 127) dX12_line_115 (by decide) ?_
          refine mm_sub C [] rfl ?_
          exact w_X12_line_127 hd C _ _ hK
      · replace hK := mm_ip hc hK
        refine mm_iconst C (pc := 89) (v := ((-1) : Int32)) dX12_line_89 (by decide) ?_
        refine mm_goto C (pc := 90) (tgt := 127) dX12_line_90 (by decide) ?_
        refine mm_sub C [] rfl ?_
        exact w_X12_line_127 hd C _ _ hK
    · replace hK := mm_in hc hK
      refine mm_iload_n C (pc := 47) 2 dX12_line_47 rfl ?_
      refine mm_iconst C (pc := 48) (v := (1 : Int32)) dX12_line_48 (by decide) ?_
      refine mm_icmp_ne C (pc := 49) (tgt := 64) dX12_line_49 (by decide) (fun hc => ?_) (fun hc => ?_)
      · replace hK := mm_in hc hK
        refine mm_aload_n C (pc := 64) 0 dX12_line_64 rfl ?_
        refine mm_iload_n C (pc := 65) 1 dX12_line_65 rfl ?_
        replace hK := mm_b2s hK; obtain ⟨v66, h66, e66, hK⟩ := hK
        obtain ⟨o66, e66⟩ := cV_some e66
        refine mm_callV C (pc := 66) (d1 := 2) (As := [.int l1]) (st := []) (vk := (some (.int v66))) ((S_X12_isShut (by omega)) e66) tT_X12_isShut o66 (Or.inr ⟨_, rfl, rfl⟩) wd_2312 wd_2314 wd_89 (by omega) (by decide) rfl (by simp [mm_crf, mm_cti, mm_ctl]) rfl dX12_line_66 ?_
        show V _ _ (.int v66 :: _) _
        refine mm_if_eq C (pc := 69) (tgt := 76) dX12_line_69 (by decide) (fun hc => ?_) (fun hc => ?_)
        · replace hK := mm_ip hc hK
          refine mm_iconst C (pc := 76) (v := (0 : Int32)) dX12_line_76 (by decide) ?_
          refine mm_sub C [] rfl ?_
          exact w_X12_line_77 hd C _ _ hK
        · replace hK := mm_in hc hK
          refine mm_iconst C (pc := 72) (v := (1 : Int32)) dX12_line_72 (by decide) ?_
          refine mm_goto C (pc := 73) (tgt := 77) dX12_line_73 (by decide) ?_
          refine mm_sub C [] rfl ?_
          exact w_X12_line_77 hd C _ _ hK
      · replace hK := mm_ip hc hK
        refine mm_aload_n C (pc := 52) 0 dX12_line_52 rfl ?_
        replace hK := mm_bd hK; obtain ⟨v53, e53, hK⟩ := hK
        refine mm_getr C (pc := 53) (k := 0) inGX12 rfl (by decide) wd_1999 dX12_line_53 e53 ?_
        refine mm_bipush C (pc := 56) (v := (38 : Int32)) dX12_line_56 (by decide) ?_
        refine mm_iload_n C (pc := 58) 1 dX12_line_58 rfl ?_
        refine mm_iadd C (pc := 59) dX12_line_59 ?_
        replace hK := mm_bd hK; obtain ⟨v60, e60, hK⟩ := hK
        refine mm_iald C (pc := 60) dX12_line_60 e60 ?_
        refine mm_goto C (pc := 61) (tgt := 77) dX12_line_61 (by decide) ?_
        refine mm_sub C [] rfl ?_
        exact w_X12_line_77 hd C _ _ hK
  · replace hK := mm_in hc hK
    refine mm_iconst C (pc := 41) (v := (0 : Int32)) dX12_line_41 (by decide) ?_
    cases hK
    exact mm_iret C (pc := 42) rfl dX12_line_42 rfl rfl
def F_X12_line (a0 : Option Nat) (a1 : Int32) (a2 : Int32) (h : MH) : Option (Int32 × MH) := mm_b2 (cV h a0 12 (F_X12_isLine a0 (a1.toInt64) h)) fun v4 h4 => if v4 = 0 then (F_X12_line_31 a0 a1 a2 (1 : Int32) a0 h4) else (mm_b2 (F_X12_within (a2.toInt64) (0 : Int64) (2 : Int64) h4) fun v20 h20 => if v20 = 0 then (F_X12_line_31 a0 a1 a2 (2 : Int32) a0 h20) else (F_X12_line_31 a0 a1 a2 (0 : Int32) a0 h20))
set_option maxRecDepth 20000 in
set_option maxHeartbeats 4000000 in
theorem S_X12_line {d : Nat} (hd : 3 ≤ d) {a0 : Option Nat} {a1 : Int32} {a2 : Int32} {h : MH} {r : Int32} {hz : MH} (hK : F_X12_line a0 a1 a2 h = some (r, hz)) : mm_M yX12_line cX12_line 4 (some .int) d [va_rf a0, .int a1, .int a2] h (.inr (some (.int r))) hz := by
  refine mm_ofV (by decide +kernel) (by simp [lg_sl, mm_crf, mm_cti, mm_ctl]) (fun V C => ?_)
  rw [show lv_args 0 [va_rf a0, .int a1, .int a2] = [(0, va_rf a0), (1, .int a1), (2, .int a2)] by simp [lv_args, mm_crf, mm_cti, mm_ctl]]
  unfold F_X12_line at hK
  refine mm_aload_n C (pc := 0) 0 dX12_line_0 rfl ?_
  refine mm_aload_n C (pc := 1) 0 dX12_line_1 rfl ?_
  refine mm_iload_n C (pc := 2) 1 dX12_line_2 rfl ?_
  refine mm_i2l C (pc := 3) dX12_line_3 ?_
  replace hK := mm_b2s hK; obtain ⟨v4, h4, e4, hK⟩ := hK
  obtain ⟨o4, e4⟩ := cV_some e4
  refine mm_callV C (pc := 4) (d1 := 2) (As := [.long (a1.toInt64)]) (st := [va_rf a0]) (vk := (some (.int v4))) ((S_X12_isLine (by omega)) e4) tT_X12_isLine o4 (Or.inr ⟨_, rfl, rfl⟩) wd_2307 wd_2309 wd_88 (by omega) (by decide) rfl (by simp [mm_crf, mm_cti, mm_ctl]) rfl dX12_line_4 ?_
  show V _ _ (.int v4 :: _) _
  refine mm_if_ne C (pc := 7) (tgt := 14) dX12_line_7 (by decide) (fun hc => ?_) (fun hc => ?_)
  · replace hK := mm_in hc hK
    refine mm_iload_n C (pc := 14) 2 dX12_line_14 rfl ?_
    refine mm_i2l C (pc := 15) dX12_line_15 ?_
    refine mm_lconst C (pc := 16) (v := (0 : Int64)) dX12_line_16 (by decide) ?_
    refine mm_ldc2 C (pc := 17) (v := (2 : Int64)) dX12_line_17 wd_2311 ?_
    replace hK := mm_b2s hK; obtain ⟨v20, h20, e20, hK⟩ := hK
    refine mm_callS C (pc := 20) (d1 := 1) (As := [.long (a2.toInt64), .long (0 : Int64), .long (2 : Int64)]) (st := [va_rf a0]) (vk := (some (.int v20))) ((S_X12_within (by omega)) e20) tT_X12_within wd_2157 wd_2158 (by omega) (by decide) rfl (by simp [mm_crf, mm_cti, mm_ctl]) rfl dX12_line_20 ?_
    show V _ _ (.int v20 :: _) _
    refine mm_if_eq C (pc := 23) (tgt := 30) dX12_line_23 (by decide) (fun hc => ?_) (fun hc => ?_)
    · replace hK := mm_ip hc hK
      refine mm_iconst C (pc := 30) (v := (2 : Int32)) dX12_line_30 (by decide) ?_
      exact w_X12_line_31 hd C _ _ _ _ _ _ hK
    · replace hK := mm_in hc hK
      refine mm_iconst C (pc := 26) (v := (0 : Int32)) dX12_line_26 (by decide) ?_
      refine mm_goto C (pc := 27) (tgt := 31) dX12_line_27 (by decide) ?_
      exact w_X12_line_31 hd C _ _ _ _ _ _ hK
  · replace hK := mm_ip hc hK
    refine mm_iconst C (pc := 10) (v := (1 : Int32)) dX12_line_10 (by decide) ?_
    refine mm_goto C (pc := 11) (tgt := 31) dX12_line_11 (by decide) ?_
    exact w_X12_line_31 hd C _ _ _ _ _ _ hK
def F_X12_cord_71 (s0 : Int32) (h : MH) : Option (Int32 × MH) := some (s0, h)
set_option maxRecDepth 20000 in
set_option maxHeartbeats 4000000 in
theorem w_X12_cord_71 {d : Nat} {V : Nat → List (Nat × Value) → List Value → MH → Prop} {r : Int32} {hz : MH} (hd : 3 ≤ d) (C : mm_C d yX12_cord cX12_cord 3 (some .int) (.inr (some (.int r))) hz V) (s0 : Int32) (h : MH) (hK : F_X12_cord_71 s0 h = some (r, hz)) : V 71 [] [.int s0] h := by
  unfold F_X12_cord_71 at hK
  cases hK
  exact mm_iret C (pc := 71) rfl dX12_cord_71 rfl rfl
def F_X12_cord_38 (l0 : Option Nat) (l1 : Int32) (l2 : Int32) (s0 : Int32) (s1 : Option Nat) (h : MH) : Option (Int32 × MH) := (pI h s1 12 4 s0).bind fun h38 => (gI h38 l0 12 4).bind fun v42 => if v42 ≤ 0 then (if l2 = 0 then ((gR h38 l0 12 0).bind fun v55 => (aI h38 v55 0 ((48 : Int32) + l1)).bind fun v62 => F_X12_cord_71 v62 h38) else (mm_b2 (cV h38 l0 12 (F_X12_callOn l0 l1 h38)) fun v68 h68 => F_X12_cord_71 v68 h68)) else (some ((0 : Int32), h38))
set_option maxRecDepth 20000 in
set_option maxHeartbeats 4000000 in
theorem w_X12_cord_38 {d : Nat} {V : Nat → List (Nat × Value) → List Value → MH → Prop} {r : Int32} {hz : MH} (hd : 3 ≤ d) (C : mm_C d yX12_cord cX12_cord 3 (some .int) (.inr (some (.int r))) hz V) (l0 : Option Nat) (l1 : Int32) (l2 : Int32) (s0 : Int32) (s1 : Option Nat) (h : MH) (hK : F_X12_cord_38 l0 l1 l2 s0 s1 h = some (r, hz)) : V 38 [(0, va_rf l0), (1, .int l1), (2, .int l2)] [.int s0, va_rf s1] h := by
  unfold F_X12_cord_38 at hK
  replace hK := mm_bd hK; obtain ⟨h38, e38, hK⟩ := hK
  refine mm_puti C (pc := 38) (k := 4) false (fun z => by cases z) inGX12 tyX12 tyX12_ok nmX12 rfl (by decide) wd_2003 rfl rfl dX12_cord_38 e38 ?_
  refine mm_aload_n C (pc := 41) 0 dX12_cord_41 rfl ?_
  replace hK := mm_bd hK; obtain ⟨v42, e42, hK⟩ := hK
  refine mm_geti C (pc := 42) (k := 4) inGX12 rfl (by decide) wd_2003 dX12_cord_42 e42 ?_
  refine mm_if_le C (pc := 45) (tgt := 50) dX12_cord_45 (by decide) (fun hc => ?_) (fun hc => ?_)
  · replace hK := mm_ip hc hK
    refine mm_iload_n C (pc := 50) 2 dX12_cord_50 rfl ?_
    refine mm_if_ne C (pc := 51) (tgt := 66) dX12_cord_51 (by decide) (fun hc => ?_) (fun hc => ?_)
    · replace hK := mm_in hc hK
      refine mm_aload_n C (pc := 66) 0 dX12_cord_66 rfl ?_
      refine mm_iload_n C (pc := 67) 1 dX12_cord_67 rfl ?_
      replace hK := mm_b2s hK; obtain ⟨v68, h68, e68, hK⟩ := hK
      obtain ⟨o68, e68⟩ := cV_some e68
      refine mm_callV C (pc := 68) (d1 := 2) (As := [.int l1]) (st := []) (vk := (some (.int v68))) ((S_X12_callOn (by omega)) e68) tT_X12_callOn o68 (Or.inr ⟨_, rfl, rfl⟩) wd_2327 wd_2329 wd_91 (by omega) (by decide) rfl (by simp [mm_crf, mm_cti, mm_ctl]) rfl dX12_cord_68 ?_
      show V _ _ (.int v68 :: _) _
      refine mm_sub C [] rfl ?_
      exact w_X12_cord_71 hd C _ _ hK
    · replace hK := mm_ip hc hK
      refine mm_aload_n C (pc := 54) 0 dX12_cord_54 rfl ?_
      replace hK := mm_bd hK; obtain ⟨v55, e55, hK⟩ := hK
      refine mm_getr C (pc := 55) (k := 0) inGX12 rfl (by decide) wd_1999 dX12_cord_55 e55 ?_
      refine mm_bipush C (pc := 58) (v := (48 : Int32)) dX12_cord_58 (by decide) ?_
      refine mm_iload_n C (pc := 60) 1 dX12_cord_60 rfl ?_
      refine mm_iadd C (pc := 61) dX12_cord_61 ?_
      replace hK := mm_bd hK; obtain ⟨v62, e62, hK⟩ := hK
      refine mm_iald C (pc := 62) dX12_cord_62 e62 ?_
      refine mm_goto C (pc := 63) (tgt := 71) dX12_cord_63 (by decide) ?_
      refine mm_sub C [] rfl ?_
      exact w_X12_cord_71 hd C _ _ hK
  · replace hK := mm_in hc hK
    refine mm_iconst C (pc := 48) (v := (0 : Int32)) dX12_cord_48 (by decide) ?_
    cases hK
    exact mm_iret C (pc := 49) rfl dX12_cord_49 rfl rfl
def F_X12_cord (a0 : Option Nat) (a1 : Int32) (a2 : Int32) (h : MH) : Option (Int32 × MH) := (gR h a0 12 0).bind fun v5 => (aI h v5 0 (2 : Int32)).bind fun v9 => mm_b2 (F_X12_within (a1.toInt64) (0 : Int64) ((v9 - (1 : Int32)).toInt64) h) fun v13 h13 => if v13 = 0 then (F_X12_cord_38 a0 a1 a2 (1 : Int32) a0 h13) else (mm_b2 (F_X12_within (a2.toInt64) (0 : Int64) (1 : Int64) h13) fun v27 h27 => if v27 = 0 then (F_X12_cord_38 a0 a1 a2 (2 : Int32) a0 h27) else (F_X12_cord_38 a0 a1 a2 (0 : Int32) a0 h27))
set_option maxRecDepth 20000 in
set_option maxHeartbeats 4000000 in
theorem S_X12_cord {d : Nat} (hd : 3 ≤ d) {a0 : Option Nat} {a1 : Int32} {a2 : Int32} {h : MH} {r : Int32} {hz : MH} (hK : F_X12_cord a0 a1 a2 h = some (r, hz)) : mm_M yX12_cord cX12_cord 3 (some .int) d [va_rf a0, .int a1, .int a2] h (.inr (some (.int r))) hz := by
  refine mm_ofV (by decide +kernel) (by simp [lg_sl, mm_crf, mm_cti, mm_ctl]) (fun V C => ?_)
  rw [show lv_args 0 [va_rf a0, .int a1, .int a2] = [(0, va_rf a0), (1, .int a1), (2, .int a2)] by simp [lv_args, mm_crf, mm_cti, mm_ctl]]
  unfold F_X12_cord at hK
  refine mm_aload_n C (pc := 0) 0 dX12_cord_0 rfl ?_
  refine mm_iload_n C (pc := 1) 1 dX12_cord_1 rfl ?_
  refine mm_i2l C (pc := 2) dX12_cord_2 ?_
  refine mm_lconst C (pc := 3) (v := (0 : Int64)) dX12_cord_3 (by decide) ?_
  refine mm_aload_n C (pc := 4) 0 dX12_cord_4 rfl ?_
  replace hK := mm_bd hK; obtain ⟨v5, e5, hK⟩ := hK
  refine mm_getr C (pc := 5) (k := 0) inGX12 rfl (by decide) wd_1999 dX12_cord_5 e5 ?_
  refine mm_iconst C (pc := 8) (v := (2 : Int32)) dX12_cord_8 (by decide) ?_
  replace hK := mm_bd hK; obtain ⟨v9, e9, hK⟩ := hK
  refine mm_iald C (pc := 9) dX12_cord_9 e9 ?_
  refine mm_iconst C (pc := 10) (v := (1 : Int32)) dX12_cord_10 (by decide) ?_
  refine mm_isub C (pc := 11) dX12_cord_11 ?_
  refine mm_i2l C (pc := 12) dX12_cord_12 ?_
  replace hK := mm_b2s hK; obtain ⟨v13, h13, e13, hK⟩ := hK
  refine mm_callS C (pc := 13) (d1 := 1) (As := [.long (a1.toInt64), .long (0 : Int64), .long ((v9 - (1 : Int32)).toInt64)]) (st := [va_rf a0]) (vk := (some (.int v13))) ((S_X12_within (by omega)) e13) tT_X12_within wd_2157 wd_2158 (by omega) (by decide) rfl (by simp [mm_crf, mm_cti, mm_ctl]) rfl dX12_cord_13 ?_
  show V _ _ (.int v13 :: _) _
  refine mm_if_ne C (pc := 16) (tgt := 23) dX12_cord_16 (by decide) (fun hc => ?_) (fun hc => ?_)
  · replace hK := mm_in hc hK
    refine mm_iload_n C (pc := 23) 2 dX12_cord_23 rfl ?_
    refine mm_i2l C (pc := 24) dX12_cord_24 ?_
    refine mm_lconst C (pc := 25) (v := (0 : Int64)) dX12_cord_25 (by decide) ?_
    refine mm_lconst C (pc := 26) (v := (1 : Int64)) dX12_cord_26 (by decide) ?_
    replace hK := mm_b2s hK; obtain ⟨v27, h27, e27, hK⟩ := hK
    refine mm_callS C (pc := 27) (d1 := 1) (As := [.long (a2.toInt64), .long (0 : Int64), .long (1 : Int64)]) (st := [va_rf a0]) (vk := (some (.int v27))) ((S_X12_within (by omega)) e27) tT_X12_within wd_2157 wd_2158 (by omega) (by decide) rfl (by simp [mm_crf, mm_cti, mm_ctl]) rfl dX12_cord_27 ?_
    show V _ _ (.int v27 :: _) _
    refine mm_if_eq C (pc := 30) (tgt := 37) dX12_cord_30 (by decide) (fun hc => ?_) (fun hc => ?_)
    · replace hK := mm_ip hc hK
      refine mm_iconst C (pc := 37) (v := (2 : Int32)) dX12_cord_37 (by decide) ?_
      exact w_X12_cord_38 hd C _ _ _ _ _ _ hK
    · replace hK := mm_in hc hK
      refine mm_iconst C (pc := 33) (v := (0 : Int32)) dX12_cord_33 (by decide) ?_
      refine mm_goto C (pc := 34) (tgt := 38) dX12_cord_34 (by decide) ?_
      exact w_X12_cord_38 hd C _ _ _ _ _ _ hK
  · replace hK := mm_ip hc hK
    refine mm_iconst C (pc := 19) (v := (1 : Int32)) dX12_cord_19 (by decide) ?_
    refine mm_goto C (pc := 20) (tgt := 38) dX12_cord_20 (by decide) ?_
    exact w_X12_cord_38 hd C _ _ _ _ _ _ hK
theorem wd_2338 : Cond.code yX12_isCall cX12_isCall 3 (some .boolean) ∈ lw_good := mm_wd 2338 (by decide +kernel) (by decide +kernel)
theorem tT_X12_isCall : mm_T yX12_isCall cX12_isCall 3 (some .boolean) 1 := ⟨wd_2338, wd_170, by decide +kernel, by decide +kernel, by decide +kernel, by decide +kernel⟩
theorem wd_2335 : Cond.methodLink RX12 334 yX12_isCall ∈ lw_good := mm_wd 2335 (by decide +kernel) (by decide +kernel)
theorem wd_2337 : Cond.instanceMethod yX12_isCall ∈ lw_good := mm_wd 2337 (by decide +kernel) (by decide +kernel)
theorem wd_92 : Cond.selects RX12 yX12_isCall yX12_isCall ∈ lw_good := mm_wd 92 (by decide +kernel) (by decide +kernel)
theorem wd_2339 : Cond.constantLong RX12 337 (6 : Int64) ∈ lw_good := mm_wd 2339 (by decide +kernel) (by decide +kernel)
def F_X12_call_31 (l0 : Option Nat) (l1 : Int32) (l2 : Int32) (s0 : Int32) (s1 : Option Nat) (h : MH) : Option (Int32 × MH) := (pI h s1 12 4 s0).bind fun h31 => (gI h31 l0 12 4).bind fun v35 => if v35 ≤ 0 then (if l2 = (0 : Int32) then ((gR h31 l0 12 0).bind fun v85 => (aI h31 v85 0 ((51 : Int32) + l1)).bind fun v92 => some (v92, h31)) else if l2 = (1 : Int32) then ((gR h31 l0 12 0).bind fun v95 => (aI h31 v95 0 ((61 : Int32) + l1)).bind fun v102 => some (v102, h31)) else if l2 = (2 : Int32) then ((gR h31 l0 12 0).bind fun v105 => (aI h31 v105 0 ((71 : Int32) + l1)).bind fun v112 => some (v112, h31)) else if l2 = (3 : Int32) then ((gR h31 l0 12 0).bind fun v115 => (aI h31 v115 0 ((81 : Int32) + l1)).bind fun v122 => some (v122, h31)) else if l2 = (4 : Int32) then ((gR h31 l0 12 0).bind fun v125 => (aI h31 v125 0 ((8 : Int32) + l1)).bind fun v132 => some (v132, h31)) else if l2 = (5 : Int32) then ((gR h31 l0 12 0).bind fun v135 => (aI h31 v135 0 ((18 : Int32) + l1)).bind fun v142 => some (v142, h31)) else ((gR h31 l0 12 0).bind fun v145 => (aI h31 v145 0 ((28 : Int32) + l1)).bind fun v152 => some (v152, h31))) else (some ((0 : Int32), h31))
set_option maxRecDepth 20000 in
set_option maxHeartbeats 4000000 in
theorem w_X12_call_31 {d : Nat} {V : Nat → List (Nat × Value) → List Value → MH → Prop} {r : Int32} {hz : MH} (hd : 3 ≤ d) (C : mm_C d yX12_call cX12_call 3 (some .int) (.inr (some (.int r))) hz V) (l0 : Option Nat) (l1 : Int32) (l2 : Int32) (s0 : Int32) (s1 : Option Nat) (h : MH) (hK : F_X12_call_31 l0 l1 l2 s0 s1 h = some (r, hz)) : V 31 [(0, va_rf l0), (1, .int l1), (2, .int l2)] [.int s0, va_rf s1] h := by
  unfold F_X12_call_31 at hK
  replace hK := mm_bd hK; obtain ⟨h31, e31, hK⟩ := hK
  refine mm_puti C (pc := 31) (k := 4) false (fun z => by cases z) inGX12 tyX12 tyX12_ok nmX12 rfl (by decide) wd_2003 rfl rfl dX12_call_31 e31 ?_
  refine mm_aload_n C (pc := 34) 0 dX12_call_34 rfl ?_
  replace hK := mm_bd hK; obtain ⟨v35, e35, hK⟩ := hK
  refine mm_geti C (pc := 35) (k := 4) inGX12 rfl (by decide) wd_2003 dX12_call_35 e35 ?_
  refine mm_if_le C (pc := 38) (tgt := 43) dX12_call_38 (by decide) (fun hc => ?_) (fun hc => ?_)
  · replace hK := mm_ip hc hK
    refine mm_iload_n C (pc := 43) 2 dX12_call_43 rfl ?_
    by_cases hc44_0 : l2 = (0 : Int32)
    · replace hK := mm_ip hc44_0 hK
      refine mm_tableIn C (pc := 44) (tgt := 84) (off := 40) dX12_call_44 (by rw [hc44_0]; decide) (by rw [hc44_0]; decide) (by rw [hc44_0]; rfl) (by decide) ?_
      refine mm_aload_n C (pc := 84) 0 dX12_call_84 rfl ?_
      replace hK := mm_bd hK; obtain ⟨v85, e85, hK⟩ := hK
      refine mm_getr C (pc := 85) (k := 0) inGX12 rfl (by decide) wd_1999 dX12_call_85 e85 ?_
      refine mm_bipush C (pc := 88) (v := (51 : Int32)) dX12_call_88 (by decide) ?_
      refine mm_iload_n C (pc := 90) 1 dX12_call_90 rfl ?_
      refine mm_iadd C (pc := 91) dX12_call_91 ?_
      replace hK := mm_bd hK; obtain ⟨v92, e92, hK⟩ := hK
      refine mm_iald C (pc := 92) dX12_call_92 e92 ?_
      cases hK
      exact mm_iret C (pc := 93) rfl dX12_call_93 rfl rfl
    replace hK := mm_in hc44_0 hK
    by_cases hc44_1 : l2 = (1 : Int32)
    · replace hK := mm_ip hc44_1 hK
      refine mm_tableIn C (pc := 44) (tgt := 94) (off := 50) dX12_call_44 (by rw [hc44_1]; decide) (by rw [hc44_1]; decide) (by rw [hc44_1]; rfl) (by decide) ?_
      refine mm_aload_n C (pc := 94) 0 dX12_call_94 rfl ?_
      replace hK := mm_bd hK; obtain ⟨v95, e95, hK⟩ := hK
      refine mm_getr C (pc := 95) (k := 0) inGX12 rfl (by decide) wd_1999 dX12_call_95 e95 ?_
      refine mm_bipush C (pc := 98) (v := (61 : Int32)) dX12_call_98 (by decide) ?_
      refine mm_iload_n C (pc := 100) 1 dX12_call_100 rfl ?_
      refine mm_iadd C (pc := 101) dX12_call_101 ?_
      replace hK := mm_bd hK; obtain ⟨v102, e102, hK⟩ := hK
      refine mm_iald C (pc := 102) dX12_call_102 e102 ?_
      cases hK
      exact mm_iret C (pc := 103) rfl dX12_call_103 rfl rfl
    replace hK := mm_in hc44_1 hK
    by_cases hc44_2 : l2 = (2 : Int32)
    · replace hK := mm_ip hc44_2 hK
      refine mm_tableIn C (pc := 44) (tgt := 104) (off := 60) dX12_call_44 (by rw [hc44_2]; decide) (by rw [hc44_2]; decide) (by rw [hc44_2]; rfl) (by decide) ?_
      refine mm_aload_n C (pc := 104) 0 dX12_call_104 rfl ?_
      replace hK := mm_bd hK; obtain ⟨v105, e105, hK⟩ := hK
      refine mm_getr C (pc := 105) (k := 0) inGX12 rfl (by decide) wd_1999 dX12_call_105 e105 ?_
      refine mm_bipush C (pc := 108) (v := (71 : Int32)) dX12_call_108 (by decide) ?_
      refine mm_iload_n C (pc := 110) 1 dX12_call_110 rfl ?_
      refine mm_iadd C (pc := 111) dX12_call_111 ?_
      replace hK := mm_bd hK; obtain ⟨v112, e112, hK⟩ := hK
      refine mm_iald C (pc := 112) dX12_call_112 e112 ?_
      cases hK
      exact mm_iret C (pc := 113) rfl dX12_call_113 rfl rfl
    replace hK := mm_in hc44_2 hK
    by_cases hc44_3 : l2 = (3 : Int32)
    · replace hK := mm_ip hc44_3 hK
      refine mm_tableIn C (pc := 44) (tgt := 114) (off := 70) dX12_call_44 (by rw [hc44_3]; decide) (by rw [hc44_3]; decide) (by rw [hc44_3]; rfl) (by decide) ?_
      refine mm_aload_n C (pc := 114) 0 dX12_call_114 rfl ?_
      replace hK := mm_bd hK; obtain ⟨v115, e115, hK⟩ := hK
      refine mm_getr C (pc := 115) (k := 0) inGX12 rfl (by decide) wd_1999 dX12_call_115 e115 ?_
      refine mm_bipush C (pc := 118) (v := (81 : Int32)) dX12_call_118 (by decide) ?_
      refine mm_iload_n C (pc := 120) 1 dX12_call_120 rfl ?_
      refine mm_iadd C (pc := 121) dX12_call_121 ?_
      replace hK := mm_bd hK; obtain ⟨v122, e122, hK⟩ := hK
      refine mm_iald C (pc := 122) dX12_call_122 e122 ?_
      cases hK
      exact mm_iret C (pc := 123) rfl dX12_call_123 rfl rfl
    replace hK := mm_in hc44_3 hK
    by_cases hc44_4 : l2 = (4 : Int32)
    · replace hK := mm_ip hc44_4 hK
      refine mm_tableIn C (pc := 44) (tgt := 124) (off := 80) dX12_call_44 (by rw [hc44_4]; decide) (by rw [hc44_4]; decide) (by rw [hc44_4]; rfl) (by decide) ?_
      refine mm_aload_n C (pc := 124) 0 dX12_call_124 rfl ?_
      replace hK := mm_bd hK; obtain ⟨v125, e125, hK⟩ := hK
      refine mm_getr C (pc := 125) (k := 0) inGX12 rfl (by decide) wd_1999 dX12_call_125 e125 ?_
      refine mm_bipush C (pc := 128) (v := (8 : Int32)) dX12_call_128 (by decide) ?_
      refine mm_iload_n C (pc := 130) 1 dX12_call_130 rfl ?_
      refine mm_iadd C (pc := 131) dX12_call_131 ?_
      replace hK := mm_bd hK; obtain ⟨v132, e132, hK⟩ := hK
      refine mm_iald C (pc := 132) dX12_call_132 e132 ?_
      cases hK
      exact mm_iret C (pc := 133) rfl dX12_call_133 rfl rfl
    replace hK := mm_in hc44_4 hK
    by_cases hc44_5 : l2 = (5 : Int32)
    · replace hK := mm_ip hc44_5 hK
      refine mm_tableIn C (pc := 44) (tgt := 134) (off := 90) dX12_call_44 (by rw [hc44_5]; decide) (by rw [hc44_5]; decide) (by rw [hc44_5]; rfl) (by decide) ?_
      refine mm_aload_n C (pc := 134) 0 dX12_call_134 rfl ?_
      replace hK := mm_bd hK; obtain ⟨v135, e135, hK⟩ := hK
      refine mm_getr C (pc := 135) (k := 0) inGX12 rfl (by decide) wd_1999 dX12_call_135 e135 ?_
      refine mm_bipush C (pc := 138) (v := (18 : Int32)) dX12_call_138 (by decide) ?_
      refine mm_iload_n C (pc := 140) 1 dX12_call_140 rfl ?_
      refine mm_iadd C (pc := 141) dX12_call_141 ?_
      replace hK := mm_bd hK; obtain ⟨v142, e142, hK⟩ := hK
      refine mm_iald C (pc := 142) dX12_call_142 e142 ?_
      cases hK
      exact mm_iret C (pc := 143) rfl dX12_call_143 rfl rfl
    replace hK := mm_in hc44_5 hK
    refine mm_tableOut C (pc := 44) (tgt := 144) dX12_call_44 (by have t0 := mm_nei hc44_0 (k := 0) (by decide); have t1 := mm_nei hc44_1 (k := 1) (by decide); have t2 := mm_nei hc44_2 (k := 2) (by decide); have t3 := mm_nei hc44_3 (k := 3) (by decide); have t4 := mm_nei hc44_4 (k := 4) (by decide); have t5 := mm_nei hc44_5 (k := 5) (by decide); omega) (by decide) ?_
    refine mm_aload_n C (pc := 144) 0 dX12_call_144 rfl ?_
    replace hK := mm_bd hK; obtain ⟨v145, e145, hK⟩ := hK
    refine mm_getr C (pc := 145) (k := 0) inGX12 rfl (by decide) wd_1999 dX12_call_145 e145 ?_
    refine mm_bipush C (pc := 148) (v := (28 : Int32)) dX12_call_148 (by decide) ?_
    refine mm_iload_n C (pc := 150) 1 dX12_call_150 rfl ?_
    refine mm_iadd C (pc := 151) dX12_call_151 ?_
    replace hK := mm_bd hK; obtain ⟨v152, e152, hK⟩ := hK
    refine mm_iald C (pc := 152) dX12_call_152 e152 ?_
    cases hK
    exact mm_iret C (pc := 153) rfl dX12_call_153 rfl rfl
  · replace hK := mm_in hc hK
    refine mm_iconst C (pc := 41) (v := (0 : Int32)) dX12_call_41 (by decide) ?_
    cases hK
    exact mm_iret C (pc := 42) rfl dX12_call_42 rfl rfl
def F_X12_call (a0 : Option Nat) (a1 : Int32) (a2 : Int32) (h : MH) : Option (Int32 × MH) := mm_b2 (cV h a0 12 (F_X12_isCall a0 (a1.toInt64) h)) fun v4 h4 => if v4 = 0 then (F_X12_call_31 a0 a1 a2 (1 : Int32) a0 h4) else (mm_b2 (F_X12_within (a2.toInt64) (0 : Int64) (6 : Int64) h4) fun v20 h20 => if v20 = 0 then (F_X12_call_31 a0 a1 a2 (2 : Int32) a0 h20) else (F_X12_call_31 a0 a1 a2 (0 : Int32) a0 h20))
set_option maxRecDepth 20000 in
set_option maxHeartbeats 4000000 in
theorem S_X12_call {d : Nat} (hd : 3 ≤ d) {a0 : Option Nat} {a1 : Int32} {a2 : Int32} {h : MH} {r : Int32} {hz : MH} (hK : F_X12_call a0 a1 a2 h = some (r, hz)) : mm_M yX12_call cX12_call 3 (some .int) d [va_rf a0, .int a1, .int a2] h (.inr (some (.int r))) hz := by
  refine mm_ofV (by decide +kernel) (by simp [lg_sl, mm_crf, mm_cti, mm_ctl]) (fun V C => ?_)
  rw [show lv_args 0 [va_rf a0, .int a1, .int a2] = [(0, va_rf a0), (1, .int a1), (2, .int a2)] by simp [lv_args, mm_crf, mm_cti, mm_ctl]]
  unfold F_X12_call at hK
  refine mm_aload_n C (pc := 0) 0 dX12_call_0 rfl ?_
  refine mm_aload_n C (pc := 1) 0 dX12_call_1 rfl ?_
  refine mm_iload_n C (pc := 2) 1 dX12_call_2 rfl ?_
  refine mm_i2l C (pc := 3) dX12_call_3 ?_
  replace hK := mm_b2s hK; obtain ⟨v4, h4, e4, hK⟩ := hK
  obtain ⟨o4, e4⟩ := cV_some e4
  refine mm_callV C (pc := 4) (d1 := 2) (As := [.long (a1.toInt64)]) (st := [va_rf a0]) (vk := (some (.int v4))) ((S_X12_isCall (by omega)) e4) tT_X12_isCall o4 (Or.inr ⟨_, rfl, rfl⟩) wd_2335 wd_2337 wd_92 (by omega) (by decide) rfl (by simp [mm_crf, mm_cti, mm_ctl]) rfl dX12_call_4 ?_
  show V _ _ (.int v4 :: _) _
  refine mm_if_ne C (pc := 7) (tgt := 14) dX12_call_7 (by decide) (fun hc => ?_) (fun hc => ?_)
  · replace hK := mm_in hc hK
    refine mm_iload_n C (pc := 14) 2 dX12_call_14 rfl ?_
    refine mm_i2l C (pc := 15) dX12_call_15 ?_
    refine mm_lconst C (pc := 16) (v := (0 : Int64)) dX12_call_16 (by decide) ?_
    refine mm_ldc2 C (pc := 17) (v := (6 : Int64)) dX12_call_17 wd_2339 ?_
    replace hK := mm_b2s hK; obtain ⟨v20, h20, e20, hK⟩ := hK
    refine mm_callS C (pc := 20) (d1 := 1) (As := [.long (a2.toInt64), .long (0 : Int64), .long (6 : Int64)]) (st := [va_rf a0]) (vk := (some (.int v20))) ((S_X12_within (by omega)) e20) tT_X12_within wd_2157 wd_2158 (by omega) (by decide) rfl (by simp [mm_crf, mm_cti, mm_ctl]) rfl dX12_call_20 ?_
    show V _ _ (.int v20 :: _) _
    refine mm_if_eq C (pc := 23) (tgt := 30) dX12_call_23 (by decide) (fun hc => ?_) (fun hc => ?_)
    · replace hK := mm_ip hc hK
      refine mm_iconst C (pc := 30) (v := (2 : Int32)) dX12_call_30 (by decide) ?_
      exact w_X12_call_31 hd C _ _ _ _ _ _ hK
    · replace hK := mm_in hc hK
      refine mm_iconst C (pc := 26) (v := (0 : Int32)) dX12_call_26 (by decide) ?_
      refine mm_goto C (pc := 27) (tgt := 31) dX12_call_27 (by decide) ?_
      exact w_X12_call_31 hd C _ _ _ _ _ _ hK
  · replace hK := mm_ip hc hK
    refine mm_iconst C (pc := 10) (v := (1 : Int32)) dX12_call_10 (by decide) ?_
    refine mm_goto C (pc := 11) (tgt := 31) dX12_call_11 (by decide) ?_
    exact w_X12_call_31 hd C _ _ _ _ _ _ hK
def F_X12_likes_37 (s0 : Int32) (h : MH) : Option (Int32 × MH) := some (s0, h)
set_option maxRecDepth 20000 in
set_option maxHeartbeats 4000000 in
theorem w_X12_likes_37 {d : Nat} {V : Nat → List (Nat × Value) → List Value → MH → Prop} {r : Int32} {hz : MH} (hd : 5 ≤ d) (C : mm_C d yX12_likes cX12_likes 3 (some .int) (.inr (some (.int r))) hz V) (s0 : Int32) (h : MH) (hK : F_X12_likes_37 s0 h = some (r, hz)) : V 37 [] [.int s0] h := by
  unfold F_X12_likes_37 at hK
  cases hK
  exact mm_iret C (pc := 37) rfl dX12_likes_37 rfl rfl
def F_X12_likes_32 (l0 : Option Nat) (h : MH) : Option (Int32 × MH) := mm_b2 (cV h l0 12 (F_X12_fails l0 (1 : Int32) h)) fun v34 h34 => F_X12_likes_37 v34 h34
set_option maxRecDepth 20000 in
set_option maxHeartbeats 4000000 in
theorem w_X12_likes_32 {d : Nat} {V : Nat → List (Nat × Value) → List Value → MH → Prop} {r : Int32} {hz : MH} (hd : 5 ≤ d) (C : mm_C d yX12_likes cX12_likes 3 (some .int) (.inr (some (.int r))) hz V) (l0 : Option Nat) (h : MH) (hK : F_X12_likes_32 l0 h = some (r, hz)) : V 32 [(0, va_rf l0)] [] h := by
  unfold F_X12_likes_32 at hK
  refine mm_aload_n C (pc := 32) 0 dX12_likes_32 rfl ?_
  refine mm_iconst C (pc := 33) (v := (1 : Int32)) dX12_likes_33 (by decide) ?_
  replace hK := mm_b2s hK; obtain ⟨v34, h34, e34, hK⟩ := hK
  obtain ⟨o34, e34⟩ := cV_some e34
  refine mm_callV C (pc := 34) (d1 := 1) (As := [.int (1 : Int32)]) (st := []) (vk := (some (.int v34))) ((S_X12_fails (by omega)) e34) tT_X12_fails o34 (Or.inr ⟨_, rfl, rfl⟩) wd_2160 wd_2162 wd_61 (by omega) (by decide) rfl (by simp [mm_crf, mm_cti, mm_ctl]) rfl dX12_likes_34 ?_
  show V _ _ (.int v34 :: _) _
  refine mm_sub C [] rfl ?_
  exact w_X12_likes_37 hd C _ _ hK
def F_X12_likes (a0 : Option Nat) (a1 : Int32) (a2 : Int32) (h : MH) : Option (Int32 × MH) := (pI h a0 12 4 (0 : Int32)).bind fun h2 => mm_b2 (cV h2 a0 12 (F_X12_isLine a0 (a1.toInt64) h2)) fun v8 h8 => if v8 = 0 then (F_X12_likes_32 a0 h8) else (mm_b2 (cV h8 a0 12 (F_X12_isLine a0 (a2.toInt64) h8)) fun v17 h17 => if v17 = 0 then (F_X12_likes_32 a0 h17) else (mm_b2 (cV h17 a0 12 (F_X12_likesHow a0 a1 a2 h17)) fun v26 h26 => F_X12_likes_37 v26 h26))
set_option maxRecDepth 20000 in
set_option maxHeartbeats 4000000 in
theorem S_X12_likes {d : Nat} (hd : 5 ≤ d) {a0 : Option Nat} {a1 : Int32} {a2 : Int32} {h : MH} {r : Int32} {hz : MH} (hK : F_X12_likes a0 a1 a2 h = some (r, hz)) : mm_M yX12_likes cX12_likes 3 (some .int) d [va_rf a0, .int a1, .int a2] h (.inr (some (.int r))) hz := by
  refine mm_ofV (by decide +kernel) (by simp [lg_sl, mm_crf, mm_cti, mm_ctl]) (fun V C => ?_)
  rw [show lv_args 0 [va_rf a0, .int a1, .int a2] = [(0, va_rf a0), (1, .int a1), (2, .int a2)] by simp [lv_args, mm_crf, mm_cti, mm_ctl]]
  unfold F_X12_likes at hK
  refine mm_aload_n C (pc := 0) 0 dX12_likes_0 rfl ?_
  refine mm_iconst C (pc := 1) (v := (0 : Int32)) dX12_likes_1 (by decide) ?_
  replace hK := mm_bd hK; obtain ⟨h2, e2, hK⟩ := hK
  refine mm_puti C (pc := 2) (k := 4) false (fun z => by cases z) inGX12 tyX12 tyX12_ok nmX12 rfl (by decide) wd_2003 rfl rfl dX12_likes_2 e2 ?_
  refine mm_aload_n C (pc := 5) 0 dX12_likes_5 rfl ?_
  refine mm_iload_n C (pc := 6) 1 dX12_likes_6 rfl ?_
  refine mm_i2l C (pc := 7) dX12_likes_7 ?_
  replace hK := mm_b2s hK; obtain ⟨v8, h8, e8, hK⟩ := hK
  obtain ⟨o8, e8⟩ := cV_some e8
  refine mm_callV C (pc := 8) (d1 := 2) (As := [.long (a1.toInt64)]) (st := []) (vk := (some (.int v8))) ((S_X12_isLine (by omega)) e8) tT_X12_isLine o8 (Or.inr ⟨_, rfl, rfl⟩) wd_2307 wd_2309 wd_88 (by omega) (by decide) rfl (by simp [mm_crf, mm_cti, mm_ctl]) rfl dX12_likes_8 ?_
  show V _ _ (.int v8 :: _) _
  refine mm_if_eq C (pc := 11) (tgt := 32) dX12_likes_11 (by decide) (fun hc => ?_) (fun hc => ?_)
  · replace hK := mm_ip hc hK
    refine mm_sub C [0] rfl ?_
    exact w_X12_likes_32 hd C _ _ hK
  · replace hK := mm_in hc hK
    refine mm_aload_n C (pc := 14) 0 dX12_likes_14 rfl ?_
    refine mm_iload_n C (pc := 15) 2 dX12_likes_15 rfl ?_
    refine mm_i2l C (pc := 16) dX12_likes_16 ?_
    replace hK := mm_b2s hK; obtain ⟨v17, h17, e17, hK⟩ := hK
    obtain ⟨o17, e17⟩ := cV_some e17
    refine mm_callV C (pc := 17) (d1 := 2) (As := [.long (a2.toInt64)]) (st := []) (vk := (some (.int v17))) ((S_X12_isLine (by omega)) e17) tT_X12_isLine o17 (Or.inr ⟨_, rfl, rfl⟩) wd_2307 wd_2309 wd_88 (by omega) (by decide) rfl (by simp [mm_crf, mm_cti, mm_ctl]) rfl dX12_likes_17 ?_
    show V _ _ (.int v17 :: _) _
    refine mm_if_eq C (pc := 20) (tgt := 32) dX12_likes_20 (by decide) (fun hc => ?_) (fun hc => ?_)
    · replace hK := mm_ip hc hK
      refine mm_sub C [0] rfl ?_
      exact w_X12_likes_32 hd C _ _ hK
    · replace hK := mm_in hc hK
      refine mm_aload_n C (pc := 23) 0 dX12_likes_23 rfl ?_
      refine mm_iload_n C (pc := 24) 1 dX12_likes_24 rfl ?_
      refine mm_iload_n C (pc := 25) 2 dX12_likes_25 rfl ?_
      replace hK := mm_b2s hK; obtain ⟨v26, h26, e26, hK⟩ := hK
      obtain ⟨o26, e26⟩ := cV_some e26
      refine mm_callV C (pc := 26) (d1 := 4) (As := [.int a1, .int a2]) (st := []) (vk := (some (.int v26))) ((S_X12_likesHow (by omega)) e26) tT_X12_likesHow o26 (Or.inr ⟨_, rfl, rfl⟩) wd_2344 wd_2346 wd_93 (by omega) (by decide) rfl (by simp [mm_crf, mm_cti, mm_ctl]) rfl dX12_likes_26 ?_
      show V _ _ (.int v26 :: _) _
      refine mm_goto C (pc := 29) (tgt := 37) dX12_likes_29 (by decide) ?_
      refine mm_sub C [] rfl ?_
      exact w_X12_likes_37 hd C _ _ hK
theorem wd_2370 : Cond.constantLong RX12 339 (999 : Int64) ∈ lw_good := mm_wd 2370 (by decide +kernel) (by decide +kernel)
def F_X12_comesTo_59 (s0 : Int32) (h : MH) : Option (Int32 × MH) := some (s0, h)
set_option maxRecDepth 20000 in
set_option maxHeartbeats 4000000 in
theorem w_X12_comesTo_59 {d : Nat} {V : Nat → List (Nat × Value) → List Value → MH → Prop} {r : Int32} {hz : MH} (hd : 5 ≤ d) (C : mm_C d yX12_comesTo cX12_comesTo 3 (some .int) (.inr (some (.int r))) hz V) (s0 : Int32) (h : MH) (hK : F_X12_comesTo_59 s0 h = some (r, hz)) : V 59 [] [.int s0] h := by
  unfold F_X12_comesTo_59 at hK
  cases hK
  exact mm_iret C (pc := 59) rfl dX12_comesTo_59 rfl rfl
def F_X12_comesTo_31 (l0 : Option Nat) (l1 : Int32) (l2 : Int32) (s0 : Int32) (s1 : Option Nat) (h : MH) : Option (Int32 × MH) := (pI h s1 12 4 s0).bind fun h31 => (gI h31 l0 12 4).bind fun v35 => if v35 ≤ 0 then ((gR h31 l0 12 0).bind fun v48 => (aI h31 v48 0 (47 : Int32)).bind fun v53 => mm_b2 (cV h31 l0 12 (F_X12_comesBy l0 l1 (v53 + l2) h31)) fun v56 h56 => F_X12_comesTo_59 v56 h56) else (F_X12_comesTo_59 (0 : Int32) h31)
set_option maxRecDepth 20000 in
set_option maxHeartbeats 4000000 in
theorem w_X12_comesTo_31 {d : Nat} {V : Nat → List (Nat × Value) → List Value → MH → Prop} {r : Int32} {hz : MH} (hd : 5 ≤ d) (C : mm_C d yX12_comesTo cX12_comesTo 3 (some .int) (.inr (some (.int r))) hz V) (l0 : Option Nat) (l1 : Int32) (l2 : Int32) (s0 : Int32) (s1 : Option Nat) (h : MH) (hK : F_X12_comesTo_31 l0 l1 l2 s0 s1 h = some (r, hz)) : V 31 [(0, va_rf l0), (1, .int l1), (2, .int l2)] [.int s0, va_rf s1] h := by
  unfold F_X12_comesTo_31 at hK
  replace hK := mm_bd hK; obtain ⟨h31, e31, hK⟩ := hK
  refine mm_puti C (pc := 31) (k := 4) false (fun z => by cases z) inGX12 tyX12 tyX12_ok nmX12 rfl (by decide) wd_2003 rfl rfl dX12_comesTo_31 e31 ?_
  refine mm_aload_n C (pc := 34) 0 dX12_comesTo_34 rfl ?_
  replace hK := mm_bd hK; obtain ⟨v35, e35, hK⟩ := hK
  refine mm_geti C (pc := 35) (k := 4) inGX12 rfl (by decide) wd_2003 dX12_comesTo_35 e35 ?_
  refine mm_if_le C (pc := 38) (tgt := 45) dX12_comesTo_38 (by decide) (fun hc => ?_) (fun hc => ?_)
  · replace hK := mm_ip hc hK
    refine mm_aload_n C (pc := 45) 0 dX12_comesTo_45 rfl ?_
    refine mm_iload_n C (pc := 46) 1 dX12_comesTo_46 rfl ?_
    refine mm_aload_n C (pc := 47) 0 dX12_comesTo_47 rfl ?_
    replace hK := mm_bd hK; obtain ⟨v48, e48, hK⟩ := hK
    refine mm_getr C (pc := 48) (k := 0) inGX12 rfl (by decide) wd_1999 dX12_comesTo_48 e48 ?_
    refine mm_bipush C (pc := 51) (v := (47 : Int32)) dX12_comesTo_51 (by decide) ?_
    replace hK := mm_bd hK; obtain ⟨v53, e53, hK⟩ := hK
    refine mm_iald C (pc := 53) dX12_comesTo_53 e53 ?_
    refine mm_iload_n C (pc := 54) 2 dX12_comesTo_54 rfl ?_
    refine mm_iadd C (pc := 55) dX12_comesTo_55 ?_
    replace hK := mm_b2s hK; obtain ⟨v56, h56, e56, hK⟩ := hK
    obtain ⟨o56, e56⟩ := cV_some e56
    refine mm_callV C (pc := 56) (d1 := 4) (As := [.int l1, .int (v53 + l2)]) (st := []) (vk := (some (.int v56))) ((S_X12_comesBy (by omega)) e56) tT_X12_comesBy o56 (Or.inr ⟨_, rfl, rfl⟩) wd_2371 wd_2373 wd_95 (by omega) (by decide) rfl (by simp [mm_crf, mm_cti, mm_ctl]) rfl dX12_comesTo_56 ?_
    show V _ _ (.int v56 :: _) _
    refine mm_sub C [] rfl ?_
    exact w_X12_comesTo_59 hd C _ _ hK
  · replace hK := mm_in hc hK
    refine mm_iconst C (pc := 41) (v := (0 : Int32)) dX12_comesTo_41 (by decide) ?_
    refine mm_goto C (pc := 42) (tgt := 59) dX12_comesTo_42 (by decide) ?_
    refine mm_sub C [] rfl ?_
    exact w_X12_comesTo_59 hd C _ _ hK
def F_X12_comesTo (a0 : Option Nat) (a1 : Int32) (a2 : Int32) (h : MH) : Option (Int32 × MH) := mm_b2 (cV h a0 12 (F_X12_isCall a0 (a1.toInt64) h)) fun v4 h4 => if v4 = 0 then (F_X12_comesTo_31 a0 a1 a2 (1 : Int32) a0 h4) else (mm_b2 (F_X12_within (a2.toInt64) (0 : Int64) (999 : Int64) h4) fun v20 h20 => if v20 = 0 then (F_X12_comesTo_31 a0 a1 a2 (2 : Int32) a0 h20) else (F_X12_comesTo_31 a0 a1 a2 (0 : Int32) a0 h20))
set_option maxRecDepth 20000 in
set_option maxHeartbeats 4000000 in
theorem S_X12_comesTo {d : Nat} (hd : 5 ≤ d) {a0 : Option Nat} {a1 : Int32} {a2 : Int32} {h : MH} {r : Int32} {hz : MH} (hK : F_X12_comesTo a0 a1 a2 h = some (r, hz)) : mm_M yX12_comesTo cX12_comesTo 3 (some .int) d [va_rf a0, .int a1, .int a2] h (.inr (some (.int r))) hz := by
  refine mm_ofV (by decide +kernel) (by simp [lg_sl, mm_crf, mm_cti, mm_ctl]) (fun V C => ?_)
  rw [show lv_args 0 [va_rf a0, .int a1, .int a2] = [(0, va_rf a0), (1, .int a1), (2, .int a2)] by simp [lv_args, mm_crf, mm_cti, mm_ctl]]
  unfold F_X12_comesTo at hK
  refine mm_aload_n C (pc := 0) 0 dX12_comesTo_0 rfl ?_
  refine mm_aload_n C (pc := 1) 0 dX12_comesTo_1 rfl ?_
  refine mm_iload_n C (pc := 2) 1 dX12_comesTo_2 rfl ?_
  refine mm_i2l C (pc := 3) dX12_comesTo_3 ?_
  replace hK := mm_b2s hK; obtain ⟨v4, h4, e4, hK⟩ := hK
  obtain ⟨o4, e4⟩ := cV_some e4
  refine mm_callV C (pc := 4) (d1 := 2) (As := [.long (a1.toInt64)]) (st := [va_rf a0]) (vk := (some (.int v4))) ((S_X12_isCall (by omega)) e4) tT_X12_isCall o4 (Or.inr ⟨_, rfl, rfl⟩) wd_2335 wd_2337 wd_92 (by omega) (by decide) rfl (by simp [mm_crf, mm_cti, mm_ctl]) rfl dX12_comesTo_4 ?_
  show V _ _ (.int v4 :: _) _
  refine mm_if_ne C (pc := 7) (tgt := 14) dX12_comesTo_7 (by decide) (fun hc => ?_) (fun hc => ?_)
  · replace hK := mm_in hc hK
    refine mm_iload_n C (pc := 14) 2 dX12_comesTo_14 rfl ?_
    refine mm_i2l C (pc := 15) dX12_comesTo_15 ?_
    refine mm_lconst C (pc := 16) (v := (0 : Int64)) dX12_comesTo_16 (by decide) ?_
    refine mm_ldc2 C (pc := 17) (v := (999 : Int64)) dX12_comesTo_17 wd_2370 ?_
    replace hK := mm_b2s hK; obtain ⟨v20, h20, e20, hK⟩ := hK
    refine mm_callS C (pc := 20) (d1 := 1) (As := [.long (a2.toInt64), .long (0 : Int64), .long (999 : Int64)]) (st := [va_rf a0]) (vk := (some (.int v20))) ((S_X12_within (by omega)) e20) tT_X12_within wd_2157 wd_2158 (by omega) (by decide) rfl (by simp [mm_crf, mm_cti, mm_ctl]) rfl dX12_comesTo_20 ?_
    show V _ _ (.int v20 :: _) _
    refine mm_if_eq C (pc := 23) (tgt := 30) dX12_comesTo_23 (by decide) (fun hc => ?_) (fun hc => ?_)
    · replace hK := mm_ip hc hK
      refine mm_iconst C (pc := 30) (v := (2 : Int32)) dX12_comesTo_30 (by decide) ?_
      exact w_X12_comesTo_31 hd C _ _ _ _ _ _ hK
    · replace hK := mm_in hc hK
      refine mm_iconst C (pc := 26) (v := (0 : Int32)) dX12_comesTo_26 (by decide) ?_
      refine mm_goto C (pc := 27) (tgt := 31) dX12_comesTo_27 (by decide) ?_
      exact w_X12_comesTo_31 hd C _ _ _ _ _ _ hK
  · replace hK := mm_ip hc hK
    refine mm_iconst C (pc := 10) (v := (1 : Int32)) dX12_comesTo_10 (by decide) ?_
    refine mm_goto C (pc := 11) (tgt := 31) dX12_comesTo_11 (by decide) ?_
    exact w_X12_comesTo_31 hd C _ _ _ _ _ _ hK
def F_X12_keeps_56 : Nat → Option Nat → Int32 → MH → Option MH
  | 0 => fun _ _ _ => none
  | n + 1 => fun l0 l1 h => if (41 : Int32) ≤ l1 then ((gR h l0 12 0).bind fun v98 => (aI h v98 0 (6 : Int32)).bind fun v104 => (sI h v98 0 (6 : Int32) (v104 + (1 : Int32))).bind fun h107 => some h107) else ((gR h l0 12 0).bind fun v63 => (gR h l0 12 0).bind fun v71 => (aI h v71 0 (6 : Int32)).bind fun v76 => (gR h l0 12 0).bind fun v82 => (aI h v82 0 ((7 : Int32) + l1)).bind fun v89 => (sI h v63 0 (((91 : Int32) + ((41 : Int32) * v76)) + l1) v89).bind fun h90 => F_X12_keeps_56 n l0 (l1 + (1 : Int32)) h90)
set_option maxRecDepth 20000 in
set_option maxHeartbeats 4000000 in
theorem w_X12_keeps_56 {d : Nat} {V : Nat → List (Nat × Value) → List Value → MH → Prop} {hz : MH} (hd : 1 ≤ d) (C : mm_C d yX12_keeps cX12_keeps 2 none (.inr none) hz V) : ∀ (n : Nat) (l0 : Option Nat) (l1 : Int32) (h : MH), F_X12_keeps_56 n l0 l1 h = some hz → V 56 [(0, va_rf l0), (1, .int l1)] [] h := by
  intro n
  induction n with
  | zero => intro l0 l1 h hK; cases hK
  | succ n ih =>
    intro l0 l1 h hK
    replace hK : (if (41 : Int32) ≤ l1 then ((gR h l0 12 0).bind fun v98 => (aI h v98 0 (6 : Int32)).bind fun v104 => (sI h v98 0 (6 : Int32) (v104 + (1 : Int32))).bind fun h107 => some h107) else ((gR h l0 12 0).bind fun v63 => (gR h l0 12 0).bind fun v71 => (aI h v71 0 (6 : Int32)).bind fun v76 => (gR h l0 12 0).bind fun v82 => (aI h v82 0 ((7 : Int32) + l1)).bind fun v89 => (sI h v63 0 (((91 : Int32) + ((41 : Int32) * v76)) + l1) v89).bind fun h90 => F_X12_keeps_56 n l0 (l1 + (1 : Int32)) h90)) = some hz := hK
    refine mm_iload_n C (pc := 56) 1 dX12_keeps_56 rfl ?_
    refine mm_bipush C (pc := 57) (v := (41 : Int32)) dX12_keeps_57 (by decide) ?_
    refine mm_icmp_ge C (pc := 59) (tgt := 97) dX12_keeps_59 (by decide) (fun hc => ?_) (fun hc => ?_)
    · replace hK := mm_ip hc hK
      refine mm_aload_n C (pc := 97) 0 dX12_keeps_97 rfl ?_
      replace hK := mm_bd hK; obtain ⟨v98, e98, hK⟩ := hK
      refine mm_getr C (pc := 98) (k := 0) inGX12 rfl (by decide) wd_1999 dX12_keeps_98 e98 ?_
      refine mm_bipush C (pc := 101) (v := (6 : Int32)) dX12_keeps_101 (by decide) ?_
      refine mm_dup2 C (pc := 103) dX12_keeps_103 rfl mm_crf ?_
      replace hK := mm_bd hK; obtain ⟨v104, e104, hK⟩ := hK
      refine mm_iald C (pc := 104) dX12_keeps_104 e104 ?_
      refine mm_iconst C (pc := 105) (v := (1 : Int32)) dX12_keeps_105 (by decide) ?_
      refine mm_iadd C (pc := 106) dX12_keeps_106 ?_
      replace hK := mm_bd hK; obtain ⟨h107, e107, hK⟩ := hK
      refine mm_iast C (pc := 107) dX12_keeps_107 e107 ?_
      cases hK
      exact mm_vret C (pc := 108) rfl dX12_keeps_108 rfl rfl
    · replace hK := mm_in hc hK
      refine mm_aload_n C (pc := 62) 0 dX12_keeps_62 rfl ?_
      replace hK := mm_bd hK; obtain ⟨v63, e63, hK⟩ := hK
      refine mm_getr C (pc := 63) (k := 0) inGX12 rfl (by decide) wd_1999 dX12_keeps_63 e63 ?_
      refine mm_bipush C (pc := 66) (v := (91 : Int32)) dX12_keeps_66 (by decide) ?_
      refine mm_bipush C (pc := 68) (v := (41 : Int32)) dX12_keeps_68 (by decide) ?_
      refine mm_aload_n C (pc := 70) 0 dX12_keeps_70 rfl ?_
      replace hK := mm_bd hK; obtain ⟨v71, e71, hK⟩ := hK
      refine mm_getr C (pc := 71) (k := 0) inGX12 rfl (by decide) wd_1999 dX12_keeps_71 e71 ?_
      refine mm_bipush C (pc := 74) (v := (6 : Int32)) dX12_keeps_74 (by decide) ?_
      replace hK := mm_bd hK; obtain ⟨v76, e76, hK⟩ := hK
      refine mm_iald C (pc := 76) dX12_keeps_76 e76 ?_
      refine mm_imul C (pc := 77) dX12_keeps_77 ?_
      refine mm_iadd C (pc := 78) dX12_keeps_78 ?_
      refine mm_iload_n C (pc := 79) 1 dX12_keeps_79 rfl ?_
      refine mm_iadd C (pc := 80) dX12_keeps_80 ?_
      refine mm_aload_n C (pc := 81) 0 dX12_keeps_81 rfl ?_
      replace hK := mm_bd hK; obtain ⟨v82, e82, hK⟩ := hK
      refine mm_getr C (pc := 82) (k := 0) inGX12 rfl (by decide) wd_1999 dX12_keeps_82 e82 ?_
      refine mm_bipush C (pc := 85) (v := (7 : Int32)) dX12_keeps_85 (by decide) ?_
      refine mm_iload_n C (pc := 87) 1 dX12_keeps_87 rfl ?_
      refine mm_iadd C (pc := 88) dX12_keeps_88 ?_
      replace hK := mm_bd hK; obtain ⟨v89, e89, hK⟩ := hK
      refine mm_iald C (pc := 89) dX12_keeps_89 e89 ?_
      replace hK := mm_bd hK; obtain ⟨h90, e90, hK⟩ := hK
      refine mm_iast C (pc := 90) dX12_keeps_90 e90 ?_
      refine mm_iinc C (pc := 91) (v := (l1 + (1 : Int32))) (lv' := [(1, .int (l1 + (1 : Int32))), (0, va_rf l0)]) 1 dX12_keeps_91 rfl rfl (by decide) (by simp [mm_crf]) ?_
      refine mm_goto C (pc := 94) (tgt := 56) dX12_keeps_94 (by decide) ?_
      refine mm_sub C [1, 0] rfl ?_
      exact ih _ _ _ hK
def F_X12_keeps_54 (l0 : Option Nat) (h : MH) : Option MH := F_X12_keeps_56 mm_N l0 (0 : Int32) h
set_option maxRecDepth 20000 in
set_option maxHeartbeats 4000000 in
theorem w_X12_keeps_54 {d : Nat} {V : Nat → List (Nat × Value) → List Value → MH → Prop} {hz : MH} (hd : 1 ≤ d) (C : mm_C d yX12_keeps cX12_keeps 2 none (.inr none) hz V) (l0 : Option Nat) (h : MH) (hK : F_X12_keeps_54 l0 h = some hz) : V 54 [(0, va_rf l0)] [] h := by
  unfold F_X12_keeps_54 at hK
  refine mm_iconst C (pc := 54) (v := (0 : Int32)) dX12_keeps_54 (by decide) ?_
  refine mm_istore_n C (pc := 55) (i := 1) (lv' := [(1, .int (0 : Int32)), (0, va_rf l0)]) dX12_keeps_55 rfl (by decide) (by simp [mm_crf]) ?_
  refine mm_sub C [1, 0] rfl ?_
  exact w_X12_keeps_56 hd C _ _ _ _ hK
def F_X12_keeps_15 : Nat → Option Nat → Int32 → MH → Option MH
  | 0 => fun _ _ _ => none
  | n + 1 => fun l0 l1 h => if (460 : Int32) ≤ l1 then ((gR h l0 12 0).bind fun v44 => (aI h v44 0 (6 : Int32)).bind fun v50 => (sI h v44 0 (6 : Int32) (v50 - (1 : Int32))).bind fun h53 => F_X12_keeps_54 l0 h53) else ((gR h l0 12 0).bind fun v23 => (gR h l0 12 0).bind fun v28 => (aI h v28 0 (l1 + (41 : Int32))).bind fun v35 => (sI h v23 0 l1 v35).bind fun h36 => F_X12_keeps_15 n l0 (l1 + (1 : Int32)) h36)
set_option maxRecDepth 20000 in
set_option maxHeartbeats 4000000 in
theorem w_X12_keeps_15 {d : Nat} {V : Nat → List (Nat × Value) → List Value → MH → Prop} {hz : MH} (hd : 1 ≤ d) (C : mm_C d yX12_keeps cX12_keeps 2 none (.inr none) hz V) : ∀ (n : Nat) (l0 : Option Nat) (l1 : Int32) (h : MH), F_X12_keeps_15 n l0 l1 h = some hz → V 15 [(0, va_rf l0), (1, .int l1)] [] h := by
  intro n
  induction n with
  | zero => intro l0 l1 h hK; cases hK
  | succ n ih =>
    intro l0 l1 h hK
    replace hK : (if (460 : Int32) ≤ l1 then ((gR h l0 12 0).bind fun v44 => (aI h v44 0 (6 : Int32)).bind fun v50 => (sI h v44 0 (6 : Int32) (v50 - (1 : Int32))).bind fun h53 => F_X12_keeps_54 l0 h53) else ((gR h l0 12 0).bind fun v23 => (gR h l0 12 0).bind fun v28 => (aI h v28 0 (l1 + (41 : Int32))).bind fun v35 => (sI h v23 0 l1 v35).bind fun h36 => F_X12_keeps_15 n l0 (l1 + (1 : Int32)) h36)) = some hz := hK
    refine mm_iload_n C (pc := 15) 1 dX12_keeps_15 rfl ?_
    refine mm_sipush C (pc := 16) (v := (460 : Int32)) dX12_keeps_16 (by decide) ?_
    refine mm_icmp_ge C (pc := 19) (tgt := 43) dX12_keeps_19 (by decide) (fun hc => ?_) (fun hc => ?_)
    · replace hK := mm_ip hc hK
      refine mm_aload_n C (pc := 43) 0 dX12_keeps_43 rfl ?_
      replace hK := mm_bd hK; obtain ⟨v44, e44, hK⟩ := hK
      refine mm_getr C (pc := 44) (k := 0) inGX12 rfl (by decide) wd_1999 dX12_keeps_44 e44 ?_
      refine mm_bipush C (pc := 47) (v := (6 : Int32)) dX12_keeps_47 (by decide) ?_
      refine mm_dup2 C (pc := 49) dX12_keeps_49 rfl mm_crf ?_
      replace hK := mm_bd hK; obtain ⟨v50, e50, hK⟩ := hK
      refine mm_iald C (pc := 50) dX12_keeps_50 e50 ?_
      refine mm_iconst C (pc := 51) (v := (1 : Int32)) dX12_keeps_51 (by decide) ?_
      refine mm_isub C (pc := 52) dX12_keeps_52 ?_
      replace hK := mm_bd hK; obtain ⟨h53, e53, hK⟩ := hK
      refine mm_iast C (pc := 53) dX12_keeps_53 e53 ?_
      refine mm_sub C [0] rfl ?_
      exact w_X12_keeps_54 hd C _ _ hK
    · replace hK := mm_in hc hK
      refine mm_aload_n C (pc := 22) 0 dX12_keeps_22 rfl ?_
      replace hK := mm_bd hK; obtain ⟨v23, e23, hK⟩ := hK
      refine mm_getr C (pc := 23) (k := 0) inGX12 rfl (by decide) wd_1999 dX12_keeps_23 e23 ?_
      refine mm_iload_n C (pc := 26) 1 dX12_keeps_26 rfl ?_
      refine mm_aload_n C (pc := 27) 0 dX12_keeps_27 rfl ?_
      replace hK := mm_bd hK; obtain ⟨v28, e28, hK⟩ := hK
      refine mm_getr C (pc := 28) (k := 0) inGX12 rfl (by decide) wd_1999 dX12_keeps_28 e28 ?_
      refine mm_iload_n C (pc := 31) 1 dX12_keeps_31 rfl ?_
      refine mm_bipush C (pc := 32) (v := (41 : Int32)) dX12_keeps_32 (by decide) ?_
      refine mm_iadd C (pc := 34) dX12_keeps_34 ?_
      replace hK := mm_bd hK; obtain ⟨v35, e35, hK⟩ := hK
      refine mm_iald C (pc := 35) dX12_keeps_35 e35 ?_
      replace hK := mm_bd hK; obtain ⟨h36, e36, hK⟩ := hK
      refine mm_iast C (pc := 36) dX12_keeps_36 e36 ?_
      refine mm_iinc C (pc := 37) (v := (l1 + (1 : Int32))) (lv' := [(1, .int (l1 + (1 : Int32))), (0, va_rf l0)]) 1 dX12_keeps_37 rfl rfl (by decide) (by simp [mm_crf]) ?_
      refine mm_goto C (pc := 40) (tgt := 15) dX12_keeps_40 (by decide) ?_
      refine mm_sub C [1, 0] rfl ?_
      exact ih _ _ _ hK
def F_X12_keeps (a0 : Option Nat) (h : MH) : Option MH := (gR h a0 12 0).bind fun v1 => (aI h v1 0 (6 : Int32)).bind fun v6 => if v6 = (10 : Int32) then (F_X12_keeps_15 mm_N a0 (91 : Int32) h) else (F_X12_keeps_54 a0 h)
set_option maxRecDepth 20000 in
set_option maxHeartbeats 4000000 in
theorem S_X12_keeps {d : Nat} (hd : 1 ≤ d) {a0 : Option Nat} {h : MH} {hz : MH} (hK : F_X12_keeps a0 h = some hz) : mm_M yX12_keeps cX12_keeps 2 none d [va_rf a0] h (.inr none) hz := by
  refine mm_ofV (by decide +kernel) (by simp [lg_sl, mm_crf, mm_cti, mm_ctl]) (fun V C => ?_)
  rw [show lv_args 0 [va_rf a0] = [(0, va_rf a0)] by simp [lv_args, mm_crf, mm_cti, mm_ctl]]
  unfold F_X12_keeps at hK
  refine mm_aload_n C (pc := 0) 0 dX12_keeps_0 rfl ?_
  replace hK := mm_bd hK; obtain ⟨v1, e1, hK⟩ := hK
  refine mm_getr C (pc := 1) (k := 0) inGX12 rfl (by decide) wd_1999 dX12_keeps_1 e1 ?_
  refine mm_bipush C (pc := 4) (v := (6 : Int32)) dX12_keeps_4 (by decide) ?_
  replace hK := mm_bd hK; obtain ⟨v6, e6, hK⟩ := hK
  refine mm_iald C (pc := 6) dX12_keeps_6 e6 ?_
  refine mm_bipush C (pc := 7) (v := (10 : Int32)) dX12_keeps_7 (by decide) ?_
  refine mm_icmp_ne C (pc := 9) (tgt := 54) dX12_keeps_9 (by decide) (fun hc => ?_) (fun hc => ?_)
  · replace hK := mm_in hc hK
    exact w_X12_keeps_54 hd C _ _ hK
  · replace hK := mm_ip hc hK
    refine mm_bipush C (pc := 12) (v := (91 : Int32)) dX12_keeps_12 (by decide) ?_
    refine mm_istore_n C (pc := 14) (i := 1) (lv' := [(1, .int (91 : Int32)), (0, va_rf a0)]) dX12_keeps_14 rfl (by decide) (by simp [mm_crf]) ?_
    refine mm_sub C [1, 0] rfl ?_
    exact w_X12_keeps_15 hd C _ _ _ _ hK
def F_X12_putsAside_2 : Nat → Option Nat → Int32 → MH → Option MH
  | 0 => fun _ _ _ => none
  | n + 1 => fun l0 l1 h => if (41 : Int32) ≤ l1 then (some h) else ((gR h l0 12 23).bind fun v9 => (gR h l0 12 0).bind fun v14 => (aI h v14 0 ((7 : Int32) + l1)).bind fun v21 => (sI h v9 0 l1 v21).bind fun h22 => F_X12_putsAside_2 n l0 (l1 + (1 : Int32)) h22)
set_option maxRecDepth 20000 in
set_option maxHeartbeats 4000000 in
theorem w_X12_putsAside_2 {d : Nat} {V : Nat → List (Nat × Value) → List Value → MH → Prop} {hz : MH} (hd : 1 ≤ d) (C : mm_C d yX12_putsAside cX12_putsAside 2 none (.inr none) hz V) : ∀ (n : Nat) (l0 : Option Nat) (l1 : Int32) (h : MH), F_X12_putsAside_2 n l0 l1 h = some hz → V 2 [(0, va_rf l0), (1, .int l1)] [] h := by
  intro n
  induction n with
  | zero => intro l0 l1 h hK; cases hK
  | succ n ih =>
    intro l0 l1 h hK
    replace hK : (if (41 : Int32) ≤ l1 then (some h) else ((gR h l0 12 23).bind fun v9 => (gR h l0 12 0).bind fun v14 => (aI h v14 0 ((7 : Int32) + l1)).bind fun v21 => (sI h v9 0 l1 v21).bind fun h22 => F_X12_putsAside_2 n l0 (l1 + (1 : Int32)) h22)) = some hz := hK
    refine mm_iload_n C (pc := 2) 1 dX12_putsAside_2 rfl ?_
    refine mm_bipush C (pc := 3) (v := (41 : Int32)) dX12_putsAside_3 (by decide) ?_
    refine mm_icmp_ge C (pc := 5) (tgt := 29) dX12_putsAside_5 (by decide) (fun hc => ?_) (fun hc => ?_)
    · replace hK := mm_ip hc hK
      cases hK
      exact mm_vret C (pc := 29) rfl dX12_putsAside_29 rfl rfl
    · replace hK := mm_in hc hK
      refine mm_aload_n C (pc := 8) 0 dX12_putsAside_8 rfl ?_
      replace hK := mm_bd hK; obtain ⟨v9, e9, hK⟩ := hK
      refine mm_getr C (pc := 9) (k := 23) inGX12 rfl (by decide) wd_2022 dX12_putsAside_9 e9 ?_
      refine mm_iload_n C (pc := 12) 1 dX12_putsAside_12 rfl ?_
      refine mm_aload_n C (pc := 13) 0 dX12_putsAside_13 rfl ?_
      replace hK := mm_bd hK; obtain ⟨v14, e14, hK⟩ := hK
      refine mm_getr C (pc := 14) (k := 0) inGX12 rfl (by decide) wd_1999 dX12_putsAside_14 e14 ?_
      refine mm_bipush C (pc := 17) (v := (7 : Int32)) dX12_putsAside_17 (by decide) ?_
      refine mm_iload_n C (pc := 19) 1 dX12_putsAside_19 rfl ?_
      refine mm_iadd C (pc := 20) dX12_putsAside_20 ?_
      replace hK := mm_bd hK; obtain ⟨v21, e21, hK⟩ := hK
      refine mm_iald C (pc := 21) dX12_putsAside_21 e21 ?_
      replace hK := mm_bd hK; obtain ⟨h22, e22, hK⟩ := hK
      refine mm_iast C (pc := 22) dX12_putsAside_22 e22 ?_
      refine mm_iinc C (pc := 23) (v := (l1 + (1 : Int32))) (lv' := [(1, .int (l1 + (1 : Int32))), (0, va_rf l0)]) 1 dX12_putsAside_23 rfl rfl (by decide) (by simp [mm_crf]) ?_
      refine mm_goto C (pc := 26) (tgt := 2) dX12_putsAside_26 (by decide) ?_
      refine mm_sub C [1, 0] rfl ?_
      exact ih _ _ _ hK
def F_X12_putsAside (a0 : Option Nat) (h : MH) : Option MH := F_X12_putsAside_2 mm_N a0 (0 : Int32) h
set_option maxRecDepth 20000 in
set_option maxHeartbeats 4000000 in
theorem S_X12_putsAside {d : Nat} (hd : 1 ≤ d) {a0 : Option Nat} {h : MH} {hz : MH} (hK : F_X12_putsAside a0 h = some hz) : mm_M yX12_putsAside cX12_putsAside 2 none d [va_rf a0] h (.inr none) hz := by
  refine mm_ofV (by decide +kernel) (by simp [lg_sl, mm_crf, mm_cti, mm_ctl]) (fun V C => ?_)
  rw [show lv_args 0 [va_rf a0] = [(0, va_rf a0)] by simp [lv_args, mm_crf, mm_cti, mm_ctl]]
  unfold F_X12_putsAside at hK
  refine mm_iconst C (pc := 0) (v := (0 : Int32)) dX12_putsAside_0 (by decide) ?_
  refine mm_istore_n C (pc := 1) (i := 1) (lv' := [(1, .int (0 : Int32)), (0, va_rf a0)]) dX12_putsAside_1 rfl (by decide) (by simp [mm_crf]) ?_
  refine mm_sub C [1, 0] rfl ?_
  exact w_X12_putsAside_2 hd C _ _ _ _ hK
def F_X12_putsBack_2 : Nat → Option Nat → Int32 → MH → Option MH
  | 0 => fun _ _ _ => none
  | n + 1 => fun l0 l1 h => if (41 : Int32) ≤ l1 then (some h) else ((gR h l0 12 0).bind fun v9 => (gR h l0 12 23).bind fun v17 => (aI h v17 0 l1).bind fun v21 => (sI h v9 0 ((7 : Int32) + l1) v21).bind fun h22 => F_X12_putsBack_2 n l0 (l1 + (1 : Int32)) h22)
set_option maxRecDepth 20000 in
set_option maxHeartbeats 4000000 in
theorem w_X12_putsBack_2 {d : Nat} {V : Nat → List (Nat × Value) → List Value → MH → Prop} {hz : MH} (hd : 1 ≤ d) (C : mm_C d yX12_putsBack cX12_putsBack 2 none (.inr none) hz V) : ∀ (n : Nat) (l0 : Option Nat) (l1 : Int32) (h : MH), F_X12_putsBack_2 n l0 l1 h = some hz → V 2 [(0, va_rf l0), (1, .int l1)] [] h := by
  intro n
  induction n with
  | zero => intro l0 l1 h hK; cases hK
  | succ n ih =>
    intro l0 l1 h hK
    replace hK : (if (41 : Int32) ≤ l1 then (some h) else ((gR h l0 12 0).bind fun v9 => (gR h l0 12 23).bind fun v17 => (aI h v17 0 l1).bind fun v21 => (sI h v9 0 ((7 : Int32) + l1) v21).bind fun h22 => F_X12_putsBack_2 n l0 (l1 + (1 : Int32)) h22)) = some hz := hK
    refine mm_iload_n C (pc := 2) 1 dX12_putsBack_2 rfl ?_
    refine mm_bipush C (pc := 3) (v := (41 : Int32)) dX12_putsBack_3 (by decide) ?_
    refine mm_icmp_ge C (pc := 5) (tgt := 29) dX12_putsBack_5 (by decide) (fun hc => ?_) (fun hc => ?_)
    · replace hK := mm_ip hc hK
      cases hK
      exact mm_vret C (pc := 29) rfl dX12_putsBack_29 rfl rfl
    · replace hK := mm_in hc hK
      refine mm_aload_n C (pc := 8) 0 dX12_putsBack_8 rfl ?_
      replace hK := mm_bd hK; obtain ⟨v9, e9, hK⟩ := hK
      refine mm_getr C (pc := 9) (k := 0) inGX12 rfl (by decide) wd_1999 dX12_putsBack_9 e9 ?_
      refine mm_bipush C (pc := 12) (v := (7 : Int32)) dX12_putsBack_12 (by decide) ?_
      refine mm_iload_n C (pc := 14) 1 dX12_putsBack_14 rfl ?_
      refine mm_iadd C (pc := 15) dX12_putsBack_15 ?_
      refine mm_aload_n C (pc := 16) 0 dX12_putsBack_16 rfl ?_
      replace hK := mm_bd hK; obtain ⟨v17, e17, hK⟩ := hK
      refine mm_getr C (pc := 17) (k := 23) inGX12 rfl (by decide) wd_2022 dX12_putsBack_17 e17 ?_
      refine mm_iload_n C (pc := 20) 1 dX12_putsBack_20 rfl ?_
      replace hK := mm_bd hK; obtain ⟨v21, e21, hK⟩ := hK
      refine mm_iald C (pc := 21) dX12_putsBack_21 e21 ?_
      replace hK := mm_bd hK; obtain ⟨h22, e22, hK⟩ := hK
      refine mm_iast C (pc := 22) dX12_putsBack_22 e22 ?_
      refine mm_iinc C (pc := 23) (v := (l1 + (1 : Int32))) (lv' := [(1, .int (l1 + (1 : Int32))), (0, va_rf l0)]) 1 dX12_putsBack_23 rfl rfl (by decide) (by simp [mm_crf]) ?_
      refine mm_goto C (pc := 26) (tgt := 2) dX12_putsBack_26 (by decide) ?_
      refine mm_sub C [1, 0] rfl ?_
      exact ih _ _ _ hK
def F_X12_putsBack (a0 : Option Nat) (h : MH) : Option MH := F_X12_putsBack_2 mm_N a0 (0 : Int32) h
set_option maxRecDepth 20000 in
set_option maxHeartbeats 4000000 in
theorem S_X12_putsBack {d : Nat} (hd : 1 ≤ d) {a0 : Option Nat} {h : MH} {hz : MH} (hK : F_X12_putsBack a0 h = some hz) : mm_M yX12_putsBack cX12_putsBack 2 none d [va_rf a0] h (.inr none) hz := by
  refine mm_ofV (by decide +kernel) (by simp [lg_sl, mm_crf, mm_cti, mm_ctl]) (fun V C => ?_)
  rw [show lv_args 0 [va_rf a0] = [(0, va_rf a0)] by simp [lv_args, mm_crf, mm_cti, mm_ctl]]
  unfold F_X12_putsBack at hK
  refine mm_iconst C (pc := 0) (v := (0 : Int32)) dX12_putsBack_0 (by decide) ?_
  refine mm_istore_n C (pc := 1) (i := 1) (lv' := [(1, .int (0 : Int32)), (0, va_rf a0)]) dX12_putsBack_1 rfl (by decide) (by simp [mm_crf]) ?_
  refine mm_sub C [1, 0] rfl ?_
  exact w_X12_putsBack_2 hd C _ _ _ _ hK
theorem wd_2387 : Cond.constantLong RX12 341 (99 : Int64) ∈ lw_good := mm_wd 2387 (by decide +kernel) (by decide +kernel)
def F_X12_whyDial_52 (s0 : Int32) (h : MH) : Option (Int32 × MH) := some (s0, h)
set_option maxRecDepth 20000 in
set_option maxHeartbeats 4000000 in
theorem w_X12_whyDial_52 {d : Nat} {V : Nat → List (Nat × Value) → List Value → MH → Prop} {r : Int32} {hz : MH} (hd : 3 ≤ d) (C : mm_C d yX12_whyDial cX12_whyDial 7 (some .int) (.inr (some (.int r))) hz V) (s0 : Int32) (h : MH) (hK : F_X12_whyDial_52 s0 h = some (r, hz)) : V 52 [] [.int s0] h := by
  unfold F_X12_whyDial_52 at hK
  cases hK
  exact mm_iret C (pc := 52) rfl dX12_whyDial_52 rfl rfl
def F_X12_whyDial_34 (h : MH) : Option (Int32 × MH) := F_X12_whyDial_52 (1 : Int32) h
set_option maxRecDepth 20000 in
set_option maxHeartbeats 4000000 in
theorem w_X12_whyDial_34 {d : Nat} {V : Nat → List (Nat × Value) → List Value → MH → Prop} {r : Int32} {hz : MH} (hd : 3 ≤ d) (C : mm_C d yX12_whyDial cX12_whyDial 7 (some .int) (.inr (some (.int r))) hz V) (h : MH) (hK : F_X12_whyDial_34  h = some (r, hz)) : V 34 [] [] h := by
  unfold F_X12_whyDial_34 at hK
  refine mm_iconst C (pc := 34) (v := (1 : Int32)) dX12_whyDial_34 (by decide) ?_
  refine mm_goto C (pc := 35) (tgt := 52) dX12_whyDial_35 (by decide) ?_
  exact w_X12_whyDial_52 hd C _ _ hK
def F_X12_whyDial (a0 : Option Nat) (a1 : Int64) (a2 : Int64) (a3 : Int64) (h : MH) : Option (Int32 × MH) := mm_b2 (cV h a0 12 (F_X12_isLine a0 a1 h)) fun v2 h2 => if v2 = 0 then (F_X12_whyDial_34 h2) else (mm_b2 (cV h2 a0 12 (F_X12_isLine a0 a2 h2)) fun v10 h10 => if v10 = 0 then (F_X12_whyDial_34 h10) else (if (lg_cmp a1 a2) = 0 then (F_X12_whyDial_34 h10) else (mm_b2 (F_X12_within a3 (1 : Int64) (99 : Int64) h10) fun v28 h28 => if v28 = 0 then (F_X12_whyDial_34 h28) else (mm_b2 (cV h28 a0 12 (F_X12_calls a0 h28)) fun v39 h39 => if v39 = (10 : Int32) then (F_X12_whyDial_52 (2 : Int32) h39) else (F_X12_whyDial_52 (0 : Int32) h39)))))
set_option maxRecDepth 20000 in
set_option maxHeartbeats 4000000 in
theorem S_X12_whyDial {d : Nat} (hd : 3 ≤ d) {a0 : Option Nat} {a1 : Int64} {a2 : Int64} {a3 : Int64} {h : MH} {r : Int32} {hz : MH} (hK : F_X12_whyDial a0 a1 a2 a3 h = some (r, hz)) : mm_M yX12_whyDial cX12_whyDial 7 (some .int) d [va_rf a0, .long a1, .long a2, .long a3] h (.inr (some (.int r))) hz := by
  refine mm_ofV (by decide +kernel) (by simp [lg_sl, mm_crf, mm_cti, mm_ctl]) (fun V C => ?_)
  rw [show lv_args 0 [va_rf a0, .long a1, .long a2, .long a3] = [(0, va_rf a0), (1, .long a1), (3, .long a2), (5, .long a3)] by simp [lv_args, mm_crf, mm_cti, mm_ctl]]
  unfold F_X12_whyDial at hK
  refine mm_aload_n C (pc := 0) 0 dX12_whyDial_0 rfl ?_
  refine mm_lload_n C (pc := 1) 1 dX12_whyDial_1 rfl ?_
  replace hK := mm_b2s hK; obtain ⟨v2, h2, e2, hK⟩ := hK
  obtain ⟨o2, e2⟩ := cV_some e2
  refine mm_callV C (pc := 2) (d1 := 2) (As := [.long a1]) (st := []) (vk := (some (.int v2))) ((S_X12_isLine (by omega)) e2) tT_X12_isLine o2 (Or.inr ⟨_, rfl, rfl⟩) wd_2307 wd_2309 wd_88 (by omega) (by decide) rfl (by simp [mm_crf, mm_cti, mm_ctl]) rfl dX12_whyDial_2 ?_
  show V _ _ (.int v2 :: _) _
  refine mm_if_eq C (pc := 5) (tgt := 34) dX12_whyDial_5 (by decide) (fun hc => ?_) (fun hc => ?_)
  · replace hK := mm_ip hc hK
    refine mm_sub C [] rfl ?_
    exact w_X12_whyDial_34 hd C _ hK
  · replace hK := mm_in hc hK
    refine mm_aload_n C (pc := 8) 0 dX12_whyDial_8 rfl ?_
    refine mm_lload_n C (pc := 9) 2 dX12_whyDial_9 rfl ?_
    replace hK := mm_b2s hK; obtain ⟨v10, h10, e10, hK⟩ := hK
    obtain ⟨o10, e10⟩ := cV_some e10
    refine mm_callV C (pc := 10) (d1 := 2) (As := [.long a2]) (st := []) (vk := (some (.int v10))) ((S_X12_isLine (by omega)) e10) tT_X12_isLine o10 (Or.inr ⟨_, rfl, rfl⟩) wd_2307 wd_2309 wd_88 (by omega) (by decide) rfl (by simp [mm_crf, mm_cti, mm_ctl]) rfl dX12_whyDial_10 ?_
    show V _ _ (.int v10 :: _) _
    refine mm_if_eq C (pc := 13) (tgt := 34) dX12_whyDial_13 (by decide) (fun hc => ?_) (fun hc => ?_)
    · replace hK := mm_ip hc hK
      refine mm_sub C [] rfl ?_
      exact w_X12_whyDial_34 hd C _ hK
    · replace hK := mm_in hc hK
      refine mm_lload_n C (pc := 16) 1 dX12_whyDial_16 rfl ?_
      refine mm_lload_n C (pc := 17) 2 dX12_whyDial_17 rfl ?_
      refine mm_lcmp C (pc := 18) dX12_whyDial_18 ?_
      refine mm_if_eq C (pc := 19) (tgt := 34) dX12_whyDial_19 (by decide) (fun hc => ?_) (fun hc => ?_)
      · replace hK := mm_ip hc hK
        refine mm_sub C [] rfl ?_
        exact w_X12_whyDial_34 hd C _ hK
      · replace hK := mm_in hc hK
        refine mm_lload C (pc := 22) 3 dX12_whyDial_22 rfl ?_
        refine mm_lconst C (pc := 24) (v := (1 : Int64)) dX12_whyDial_24 (by decide) ?_
        refine mm_ldc2 C (pc := 25) (v := (99 : Int64)) dX12_whyDial_25 wd_2387 ?_
        replace hK := mm_b2s hK; obtain ⟨v28, h28, e28, hK⟩ := hK
        refine mm_callS C (pc := 28) (d1 := 1) (As := [.long a3, .long (1 : Int64), .long (99 : Int64)]) (st := []) (vk := (some (.int v28))) ((S_X12_within (by omega)) e28) tT_X12_within wd_2157 wd_2158 (by omega) (by decide) rfl (by simp [mm_crf, mm_cti, mm_ctl]) rfl dX12_whyDial_28 ?_
        show V _ _ (.int v28 :: _) _
        refine mm_if_ne C (pc := 31) (tgt := 38) dX12_whyDial_31 (by decide) (fun hc => ?_) (fun hc => ?_)
        · replace hK := mm_in hc hK
          refine mm_aload_n C (pc := 38) 0 dX12_whyDial_38 rfl ?_
          replace hK := mm_b2s hK; obtain ⟨v39, h39, e39, hK⟩ := hK
          obtain ⟨o39, e39⟩ := cV_some e39
          refine mm_callV C (pc := 39) (d1 := 1) (As := []) (st := []) (vk := (some (.int v39))) ((S_X12_calls (by omega)) e39) tT_X12_calls o39 (Or.inr ⟨_, rfl, rfl⟩) wd_2295 wd_2297 wd_87 (by omega) (by decide) rfl (by simp [mm_crf, mm_cti, mm_ctl]) rfl dX12_whyDial_39 ?_
          show V _ _ (.int v39 :: _) _
          refine mm_bipush C (pc := 42) (v := (10 : Int32)) dX12_whyDial_42 (by decide) ?_
          refine mm_icmp_ne C (pc := 44) (tgt := 51) dX12_whyDial_44 (by decide) (fun hc => ?_) (fun hc => ?_)
          · replace hK := mm_in hc hK
            refine mm_iconst C (pc := 51) (v := (0 : Int32)) dX12_whyDial_51 (by decide) ?_
            refine mm_sub C [] rfl ?_
            exact w_X12_whyDial_52 hd C _ _ hK
          · replace hK := mm_ip hc hK
            refine mm_iconst C (pc := 47) (v := (2 : Int32)) dX12_whyDial_47 (by decide) ?_
            refine mm_goto C (pc := 48) (tgt := 52) dX12_whyDial_48 (by decide) ?_
            refine mm_sub C [] rfl ?_
            exact w_X12_whyDial_52 hd C _ _ hK
        · replace hK := mm_ip hc hK
          refine mm_sub C [] rfl ?_
          exact w_X12_whyDial_34 hd C _ hK
def F_X12_whyPull_31 (s0 : Int32) (h : MH) : Option (Int32 × MH) := some (s0, h)
set_option maxRecDepth 20000 in
set_option maxHeartbeats 4000000 in
theorem w_X12_whyPull_31 {d : Nat} {V : Nat → List (Nat × Value) → List Value → MH → Prop} {r : Int32} {hz : MH} (hd : 3 ≤ d) (C : mm_C d yX12_whyPull cX12_whyPull 3 (some .int) (.inr (some (.int r))) hz V) (s0 : Int32) (h : MH) (hK : F_X12_whyPull_31 s0 h = some (r, hz)) : V 31 [] [.int s0] h := by
  unfold F_X12_whyPull_31 at hK
  cases hK
  exact mm_iret C (pc := 31) rfl dX12_whyPull_31 rfl rfl
def F_X12_whyPull (a0 : Option Nat) (a1 : Int64) (h : MH) : Option (Int32 × MH) := mm_b2 (cV h a0 12 (F_X12_isCall a0 a1 h)) fun v2 h2 => if v2 = 0 then (F_X12_whyPull_31 (1 : Int32) h2) else ((gR h2 a0 12 0).bind fun v13 => (aI h2 v13 0 ((8 : Int32) + (a1.toInt32))).bind fun v21 => if v21 = (1 : Int32) then (F_X12_whyPull_31 (0 : Int32) h2) else (F_X12_whyPull_31 (2 : Int32) h2))
set_option maxRecDepth 20000 in
set_option maxHeartbeats 4000000 in
theorem S_X12_whyPull {d : Nat} (hd : 3 ≤ d) {a0 : Option Nat} {a1 : Int64} {h : MH} {r : Int32} {hz : MH} (hK : F_X12_whyPull a0 a1 h = some (r, hz)) : mm_M yX12_whyPull cX12_whyPull 3 (some .int) d [va_rf a0, .long a1] h (.inr (some (.int r))) hz := by
  refine mm_ofV (by decide +kernel) (by simp [lg_sl, mm_crf, mm_cti, mm_ctl]) (fun V C => ?_)
  rw [show lv_args 0 [va_rf a0, .long a1] = [(0, va_rf a0), (1, .long a1)] by simp [lv_args, mm_crf, mm_cti, mm_ctl]]
  unfold F_X12_whyPull at hK
  refine mm_aload_n C (pc := 0) 0 dX12_whyPull_0 rfl ?_
  refine mm_lload_n C (pc := 1) 1 dX12_whyPull_1 rfl ?_
  replace hK := mm_b2s hK; obtain ⟨v2, h2, e2, hK⟩ := hK
  obtain ⟨o2, e2⟩ := cV_some e2
  refine mm_callV C (pc := 2) (d1 := 2) (As := [.long a1]) (st := []) (vk := (some (.int v2))) ((S_X12_isCall (by omega)) e2) tT_X12_isCall o2 (Or.inr ⟨_, rfl, rfl⟩) wd_2335 wd_2337 wd_92 (by omega) (by decide) rfl (by simp [mm_crf, mm_cti, mm_ctl]) rfl dX12_whyPull_2 ?_
  show V _ _ (.int v2 :: _) _
  refine mm_if_ne C (pc := 5) (tgt := 12) dX12_whyPull_5 (by decide) (fun hc => ?_) (fun hc => ?_)
  · replace hK := mm_in hc hK
    refine mm_aload_n C (pc := 12) 0 dX12_whyPull_12 rfl ?_
    replace hK := mm_bd hK; obtain ⟨v13, e13, hK⟩ := hK
    refine mm_getr C (pc := 13) (k := 0) inGX12 rfl (by decide) wd_1999 dX12_whyPull_13 e13 ?_
    refine mm_bipush C (pc := 16) (v := (8 : Int32)) dX12_whyPull_16 (by decide) ?_
    refine mm_lload_n C (pc := 18) 1 dX12_whyPull_18 rfl ?_
    refine mm_l2i C (pc := 19) dX12_whyPull_19 ?_
    refine mm_iadd C (pc := 20) dX12_whyPull_20 ?_
    replace hK := mm_bd hK; obtain ⟨v21, e21, hK⟩ := hK
    refine mm_iald C (pc := 21) dX12_whyPull_21 e21 ?_
    refine mm_iconst C (pc := 22) (v := (1 : Int32)) dX12_whyPull_22 (by decide) ?_
    refine mm_icmp_ne C (pc := 23) (tgt := 30) dX12_whyPull_23 (by decide) (fun hc => ?_) (fun hc => ?_)
    · replace hK := mm_in hc hK
      refine mm_iconst C (pc := 30) (v := (2 : Int32)) dX12_whyPull_30 (by decide) ?_
      refine mm_sub C [] rfl ?_
      exact w_X12_whyPull_31 hd C _ _ hK
    · replace hK := mm_ip hc hK
      refine mm_iconst C (pc := 26) (v := (0 : Int32)) dX12_whyPull_26 (by decide) ?_
      refine mm_goto C (pc := 27) (tgt := 31) dX12_whyPull_27 (by decide) ?_
      refine mm_sub C [] rfl ?_
      exact w_X12_whyPull_31 hd C _ _ hK
  · replace hK := mm_ip hc hK
    refine mm_iconst C (pc := 8) (v := (1 : Int32)) dX12_whyPull_8 (by decide) ?_
    refine mm_goto C (pc := 9) (tgt := 31) dX12_whyPull_9 (by decide) ?_
    refine mm_sub C [] rfl ?_
    exact w_X12_whyPull_31 hd C _ _ hK
theorem wd_2386 : Cond.code yX12_whyDial cX12_whyDial 7 (some .int) ∈ lw_good := mm_wd 2386 (by decide +kernel) (by decide +kernel)
theorem tT_X12_whyDial : mm_T yX12_whyDial cX12_whyDial 7 (some .int) 3 := ⟨wd_2386, wd_170, by decide +kernel, by decide +kernel, by decide +kernel, by decide +kernel⟩
theorem wd_2383 : Cond.methodLink RX12 343 yX12_whyDial ∈ lw_good := mm_wd 2383 (by decide +kernel) (by decide +kernel)
theorem wd_2385 : Cond.instanceMethod yX12_whyDial ∈ lw_good := mm_wd 2385 (by decide +kernel) (by decide +kernel)
theorem wd_97 : Cond.selects RX12 yX12_whyDial yX12_whyDial ∈ lw_good := mm_wd 97 (by decide +kernel) (by decide +kernel)
theorem wd_2391 : Cond.code yX12_keeps cX12_keeps 2 none ∈ lw_good := mm_wd 2391 (by decide +kernel) (by decide +kernel)
theorem tT_X12_keeps : mm_T yX12_keeps cX12_keeps 2 none 0 := ⟨wd_2391, wd_170, by decide +kernel, by decide +kernel, by decide +kernel, by decide +kernel⟩
theorem wd_2388 : Cond.methodLink RX12 347 yX12_keeps ∈ lw_good := mm_wd 2388 (by decide +kernel) (by decide +kernel)
theorem wd_2390 : Cond.instanceMethod yX12_keeps ∈ lw_good := mm_wd 2390 (by decide +kernel) (by decide +kernel)
theorem wd_98 : Cond.selects RX12 yX12_keeps yX12_keeps ∈ lw_good := mm_wd 98 (by decide +kernel) (by decide +kernel)
def F_X12_dial (a0 : Option Nat) (a1 : Int32) (a2 : Int32) (a3 : Int32) (h : MH) : Option (Int32 × MH) := (pI h a0 12 4 (0 : Int32)).bind fun h2 => mm_b2 (cV h2 a0 12 (F_X12_whyDial a0 (a1.toInt64) (a2.toInt64) (a3.toInt64) h2)) fun v12 h12 => if v12 = 0 then ((cV h12 a0 12 (F_X12_keeps a0 h12)).bind fun h27 => (gR h27 a0 12 0).bind fun v31 => (gR h27 a0 12 0).bind fun v37 => (aI h27 v37 0 (47 : Int32)).bind fun v42 => (F_X12_laysCall v31 a1 a2 v42 a3 h27).bind fun h44 => mm_b2 (cV h44 a0 12 (F_X12_calls a0 h44)) fun v48 h48 => some ((v48 - (1 : Int32)), h48)) else (some ((-v12), h12))
set_option maxRecDepth 20000 in
set_option maxHeartbeats 4000000 in
theorem S_X12_dial {d : Nat} (hd : 4 ≤ d) {a0 : Option Nat} {a1 : Int32} {a2 : Int32} {a3 : Int32} {h : MH} {r : Int32} {hz : MH} (hK : F_X12_dial a0 a1 a2 a3 h = some (r, hz)) : mm_M yX12_dial cX12_dial 5 (some .int) d [va_rf a0, .int a1, .int a2, .int a3] h (.inr (some (.int r))) hz := by
  refine mm_ofV (by decide +kernel) (by simp [lg_sl, mm_crf, mm_cti, mm_ctl]) (fun V C => ?_)
  rw [show lv_args 0 [va_rf a0, .int a1, .int a2, .int a3] = [(0, va_rf a0), (1, .int a1), (2, .int a2), (3, .int a3)] by simp [lv_args, mm_crf, mm_cti, mm_ctl]]
  unfold F_X12_dial at hK
  refine mm_aload_n C (pc := 0) 0 dX12_dial_0 rfl ?_
  refine mm_iconst C (pc := 1) (v := (0 : Int32)) dX12_dial_1 (by decide) ?_
  replace hK := mm_bd hK; obtain ⟨h2, e2, hK⟩ := hK
  refine mm_puti C (pc := 2) (k := 4) false (fun z => by cases z) inGX12 tyX12 tyX12_ok nmX12 rfl (by decide) wd_2003 rfl rfl dX12_dial_2 e2 ?_
  refine mm_aload_n C (pc := 5) 0 dX12_dial_5 rfl ?_
  refine mm_iload_n C (pc := 6) 1 dX12_dial_6 rfl ?_
  refine mm_i2l C (pc := 7) dX12_dial_7 ?_
  refine mm_iload_n C (pc := 8) 2 dX12_dial_8 rfl ?_
  refine mm_i2l C (pc := 9) dX12_dial_9 ?_
  refine mm_iload_n C (pc := 10) 3 dX12_dial_10 rfl ?_
  refine mm_i2l C (pc := 11) dX12_dial_11 ?_
  replace hK := mm_b2s hK; obtain ⟨v12, h12, e12, hK⟩ := hK
  obtain ⟨o12, e12⟩ := cV_some e12
  refine mm_callV C (pc := 12) (d1 := 3) (As := [.long (a1.toInt64), .long (a2.toInt64), .long (a3.toInt64)]) (st := []) (vk := (some (.int v12))) ((S_X12_whyDial (by omega)) e12) tT_X12_whyDial o12 (Or.inr ⟨_, rfl, rfl⟩) wd_2383 wd_2385 wd_97 (by omega) (by decide) rfl (by simp [mm_crf, mm_cti, mm_ctl]) rfl dX12_dial_12 ?_
  show V _ _ (.int v12 :: _) _
  refine mm_istore C (pc := 15) (i := 4) (lv' := [(4, .int v12), (0, va_rf a0), (1, .int a1), (2, .int a2), (3, .int a3)]) dX12_dial_15 (by decide) rfl ?_
  refine mm_iload C (pc := 17) 0 dX12_dial_17 rfl ?_
  refine mm_if_eq C (pc := 19) (tgt := 26) dX12_dial_19 (by decide) (fun hc => ?_) (fun hc => ?_)
  · replace hK := mm_ip hc hK
    refine mm_aload_n C (pc := 26) 1 dX12_dial_26 rfl ?_
    replace hK := mm_bd hK; obtain ⟨h27, e27, hK⟩ := hK
    obtain ⟨o27, e27⟩ := cV_some e27
    refine mm_callV C (pc := 27) (d1 := 1) (As := []) (st := []) (vk := none) ((S_X12_keeps (by omega)) e27) tT_X12_keeps o27 (Or.inr ⟨_, rfl, rfl⟩) wd_2388 wd_2390 wd_98 (by omega) (by decide) rfl (by simp [mm_crf, mm_cti, mm_ctl]) rfl dX12_dial_27 ?_
    show V _ _ [] _
    refine mm_aload_n C (pc := 30) 1 dX12_dial_30 rfl ?_
    replace hK := mm_bd hK; obtain ⟨v31, e31, hK⟩ := hK
    refine mm_getr C (pc := 31) (k := 0) inGX12 rfl (by decide) wd_1999 dX12_dial_31 e31 ?_
    refine mm_iload_n C (pc := 34) 2 dX12_dial_34 rfl ?_
    refine mm_iload_n C (pc := 35) 3 dX12_dial_35 rfl ?_
    refine mm_aload_n C (pc := 36) 1 dX12_dial_36 rfl ?_
    replace hK := mm_bd hK; obtain ⟨v37, e37, hK⟩ := hK
    refine mm_getr C (pc := 37) (k := 0) inGX12 rfl (by decide) wd_1999 dX12_dial_37 e37 ?_
    refine mm_bipush C (pc := 40) (v := (47 : Int32)) dX12_dial_40 (by decide) ?_
    replace hK := mm_bd hK; obtain ⟨v42, e42, hK⟩ := hK
    refine mm_iald C (pc := 42) dX12_dial_42 e42 ?_
    refine mm_iload_n C (pc := 43) 4 dX12_dial_43 rfl ?_
    replace hK := mm_bd hK; obtain ⟨h44, e44, hK⟩ := hK
    refine mm_callS C (pc := 44) (d1 := 1) (As := [va_rf v31, .int a1, .int a2, .int v42, .int a3]) (st := []) (vk := none) ((S_X12_laysCall (by omega)) e44) tT_X12_laysCall wd_2237 wd_2238 (by omega) (by decide) rfl (by simp [mm_crf, mm_cti, mm_ctl]) rfl dX12_dial_44 ?_
    show V _ _ [] _
    refine mm_aload_n C (pc := 47) 1 dX12_dial_47 rfl ?_
    replace hK := mm_b2s hK; obtain ⟨v48, h48, e48, hK⟩ := hK
    obtain ⟨o48, e48⟩ := cV_some e48
    refine mm_callV C (pc := 48) (d1 := 1) (As := []) (st := []) (vk := (some (.int v48))) ((S_X12_calls (by omega)) e48) tT_X12_calls o48 (Or.inr ⟨_, rfl, rfl⟩) wd_2295 wd_2297 wd_87 (by omega) (by decide) rfl (by simp [mm_crf, mm_cti, mm_ctl]) rfl dX12_dial_48 ?_
    show V _ _ (.int v48 :: _) _
    refine mm_iconst C (pc := 51) (v := (1 : Int32)) dX12_dial_51 (by decide) ?_
    refine mm_isub C (pc := 52) dX12_dial_52 ?_
    cases hK
    exact mm_iret C (pc := 53) rfl dX12_dial_53 rfl rfl
  · replace hK := mm_in hc hK
    refine mm_iload C (pc := 22) 0 dX12_dial_22 rfl ?_
    refine mm_ineg C (pc := 24) dX12_dial_24 ?_
    cases hK
    exact mm_iret C (pc := 25) rfl dX12_dial_25 rfl rfl
theorem wd_2399 : Cond.code yX12_whyPull cX12_whyPull 3 (some .int) ∈ lw_good := mm_wd 2399 (by decide +kernel) (by decide +kernel)
theorem tT_X12_whyPull : mm_T yX12_whyPull cX12_whyPull 3 (some .int) 1 := ⟨wd_2399, wd_170, by decide +kernel, by decide +kernel, by decide +kernel, by decide +kernel⟩
theorem wd_2396 : Cond.methodLink RX12 350 yX12_whyPull ∈ lw_good := mm_wd 2396 (by decide +kernel) (by decide +kernel)
theorem wd_2398 : Cond.instanceMethod yX12_whyPull ∈ lw_good := mm_wd 2398 (by decide +kernel) (by decide +kernel)
theorem wd_99 : Cond.selects RX12 yX12_whyPull yX12_whyPull ∈ lw_good := mm_wd 99 (by decide +kernel) (by decide +kernel)
def F_X12_pull (a0 : Option Nat) (a1 : Int32) (h : MH) : Option (Int32 × MH) := (pI h a0 12 4 (0 : Int32)).bind fun h2 => mm_b2 (cV h2 a0 12 (F_X12_whyPull a0 (a1.toInt64) h2)) fun v8 h8 => if v8 = 0 then ((cV h8 a0 12 (F_X12_keeps a0 h8)).bind fun h22 => (gR h22 a0 12 0).bind fun v26 => (sI h22 v26 0 ((8 : Int32) + a1) (2 : Int32)).bind fun h34 => (gR h34 a0 12 0).bind fun v36 => (aI h34 v36 0 ((28 : Int32) + a1)).bind fun v43 => some (v43, h34)) else (some ((((-10) : Int32) - v8), h8))
set_option maxRecDepth 20000 in
set_option maxHeartbeats 4000000 in
theorem S_X12_pull {d : Nat} (hd : 4 ≤ d) {a0 : Option Nat} {a1 : Int32} {h : MH} {r : Int32} {hz : MH} (hK : F_X12_pull a0 a1 h = some (r, hz)) : mm_M yX12_pull cX12_pull 3 (some .int) d [va_rf a0, .int a1] h (.inr (some (.int r))) hz := by
  refine mm_ofV (by decide +kernel) (by simp [lg_sl, mm_crf, mm_cti, mm_ctl]) (fun V C => ?_)
  rw [show lv_args 0 [va_rf a0, .int a1] = [(0, va_rf a0), (1, .int a1)] by simp [lv_args, mm_crf, mm_cti, mm_ctl]]
  unfold F_X12_pull at hK
  refine mm_aload_n C (pc := 0) 0 dX12_pull_0 rfl ?_
  refine mm_iconst C (pc := 1) (v := (0 : Int32)) dX12_pull_1 (by decide) ?_
  replace hK := mm_bd hK; obtain ⟨h2, e2, hK⟩ := hK
  refine mm_puti C (pc := 2) (k := 4) false (fun z => by cases z) inGX12 tyX12 tyX12_ok nmX12 rfl (by decide) wd_2003 rfl rfl dX12_pull_2 e2 ?_
  refine mm_aload_n C (pc := 5) 0 dX12_pull_5 rfl ?_
  refine mm_iload_n C (pc := 6) 1 dX12_pull_6 rfl ?_
  refine mm_i2l C (pc := 7) dX12_pull_7 ?_
  replace hK := mm_b2s hK; obtain ⟨v8, h8, e8, hK⟩ := hK
  obtain ⟨o8, e8⟩ := cV_some e8
  refine mm_callV C (pc := 8) (d1 := 3) (As := [.long (a1.toInt64)]) (st := []) (vk := (some (.int v8))) ((S_X12_whyPull (by omega)) e8) tT_X12_whyPull o8 (Or.inr ⟨_, rfl, rfl⟩) wd_2396 wd_2398 wd_99 (by omega) (by decide) rfl (by simp [mm_crf, mm_cti, mm_ctl]) rfl dX12_pull_8 ?_
  show V _ _ (.int v8 :: _) _
  refine mm_istore_n C (pc := 11) (i := 2) (lv' := [(2, .int v8), (0, va_rf a0), (1, .int a1)]) dX12_pull_11 rfl (by decide) rfl ?_
  refine mm_iload_n C (pc := 12) 0 dX12_pull_12 rfl ?_
  refine mm_if_eq C (pc := 13) (tgt := 21) dX12_pull_13 (by decide) (fun hc => ?_) (fun hc => ?_)
  · replace hK := mm_ip hc hK
    refine mm_aload_n C (pc := 21) 1 dX12_pull_21 rfl ?_
    replace hK := mm_bd hK; obtain ⟨h22, e22, hK⟩ := hK
    obtain ⟨o22, e22⟩ := cV_some e22
    refine mm_callV C (pc := 22) (d1 := 1) (As := []) (st := []) (vk := none) ((S_X12_keeps (by omega)) e22) tT_X12_keeps o22 (Or.inr ⟨_, rfl, rfl⟩) wd_2388 wd_2390 wd_98 (by omega) (by decide) rfl (by simp [mm_crf, mm_cti, mm_ctl]) rfl dX12_pull_22 ?_
    show V _ _ [] _
    refine mm_aload_n C (pc := 25) 1 dX12_pull_25 rfl ?_
    replace hK := mm_bd hK; obtain ⟨v26, e26, hK⟩ := hK
    refine mm_getr C (pc := 26) (k := 0) inGX12 rfl (by decide) wd_1999 dX12_pull_26 e26 ?_
    refine mm_bipush C (pc := 29) (v := (8 : Int32)) dX12_pull_29 (by decide) ?_
    refine mm_iload_n C (pc := 31) 2 dX12_pull_31 rfl ?_
    refine mm_iadd C (pc := 32) dX12_pull_32 ?_
    refine mm_iconst C (pc := 33) (v := (2 : Int32)) dX12_pull_33 (by decide) ?_
    replace hK := mm_bd hK; obtain ⟨h34, e34, hK⟩ := hK
    refine mm_iast C (pc := 34) dX12_pull_34 e34 ?_
    refine mm_aload_n C (pc := 35) 1 dX12_pull_35 rfl ?_
    replace hK := mm_bd hK; obtain ⟨v36, e36, hK⟩ := hK
    refine mm_getr C (pc := 36) (k := 0) inGX12 rfl (by decide) wd_1999 dX12_pull_36 e36 ?_
    refine mm_bipush C (pc := 39) (v := (28 : Int32)) dX12_pull_39 (by decide) ?_
    refine mm_iload_n C (pc := 41) 2 dX12_pull_41 rfl ?_
    refine mm_iadd C (pc := 42) dX12_pull_42 ?_
    replace hK := mm_bd hK; obtain ⟨v43, e43, hK⟩ := hK
    refine mm_iald C (pc := 43) dX12_pull_43 e43 ?_
    cases hK
    exact mm_iret C (pc := 44) rfl dX12_pull_44 rfl rfl
  · replace hK := mm_in hc hK
    refine mm_bipush C (pc := 16) (v := ((-10) : Int32)) dX12_pull_16 (by decide) ?_
    refine mm_iload_n C (pc := 18) 0 dX12_pull_18 rfl ?_
    refine mm_isub C (pc := 19) dX12_pull_19 ?_
    obtain ⟨rfl, rfl⟩ := Prod.mk.inj (Option.some.inj hK)
    exact mm_iret C (pc := 20) rfl dX12_pull_20 rfl rfl
