theorem dL_exchange_0 : decode cL_exchange 0 = .ok (.aload_n 2, 1) := by decide +kernel
theorem dL_exchange_1 : decode cL_exchange 1 = .ok (.iconst 0, 1) := by decide +kernel
theorem dL_exchange_2 : decode cL_exchange 2 = .ok (.aload_n 0, 1) := by decide +kernel
theorem dL_exchange_3 : decode cL_exchange 3 = .ok (.iload_n 1, 1) := by decide +kernel
theorem dL_exchange_4 : decode cL_exchange 4 = .ok (.invokevirtual 7, 3) := by decide +kernel
theorem dL_exchange_7 : decode cL_exchange 7 = .ok (.i2l, 1) := by decide +kernel
theorem dL_exchange_8 : decode cL_exchange 8 = .ok (.lastore, 1) := by decide +kernel
theorem dL_exchange_9 : decode cL_exchange 9 = .ok (.goto 6, 3) := by decide +kernel
theorem dL_exchange_12 : decode cL_exchange 12 = .ok (.astore_n 3, 1) := by decide +kernel
theorem dL_exchange_13 : decode cL_exchange 13 = .ok (.iconst 1, 1) := by decide +kernel
theorem dL_exchange_14 : decode cL_exchange 14 = .ok (.ireturn, 1) := by decide +kernel
theorem dL_exchange_15 : decode cL_exchange 15 = .ok (.iconst 0, 1) := by decide +kernel
theorem dL_exchange_16 : decode cL_exchange 16 = .ok (.ireturn, 1) := by decide +kernel
theorem wd_1159 : Cond.methodLink RL 7 yX11_exchange ∈ lw_good := mm_wd 1159 (by decide +kernel) (by decide +kernel)
theorem wd_1160 : Cond.instanceMethod yX11_exchange ∈ lw_good := mm_wd 1160 (by decide +kernel) (by decide +kernel)
theorem wd_1161 : Cond.selects RX11 yX11_exchange yX11_exchange ∈ lw_good := mm_wd 1161 (by decide +kernel) (by decide +kernel)
theorem wd_1162 : Cond.code yX11_exchange cX11_exchange 2 (some .int) ∈ lw_good := mm_wd 1162 (by decide +kernel) (by decide +kernel)
theorem tT_X11_exchange : mm_T yX11_exchange cX11_exchange 2 (some .int) 1 := ⟨wd_1162, wd_142, by decide +kernel, by decide +kernel, by decide +kernel, by decide +kernel⟩
theorem wd_1158 : Cond.classLink RL 13 "java/lang/IllegalArgumentException" ∈ lw_good := mm_wd 1158 (by decide +kernel) (by decide +kernel)
theorem wc_java_lang_IllegalArgumentException : Cond.castable "java/lang/IllegalArgumentException" "java/lang/IllegalArgumentException" ∈ mm_nw := List.mem_filter.mpr ⟨by decide +kernel, by decide +kernel⟩
def F_L_exchange (a0 : Option Nat) (a1 : Int32) (a2 : Option Nat) (h : MH) : Option (Int32 × MH) := cV h a0 11 (match F_X11_exchange a0 a1 h with
  | none => none
  | some (.inl E, h4) => if E = "java/lang/IllegalArgumentException" then some ((1 : Int32), h4) else none
  | some (.inr v4, h4) => (sL h4 a2 (0 : Int32) (v4.toInt64)).bind fun h8 => some ((0 : Int32), h8))
set_option maxRecDepth 20000 in
set_option maxHeartbeats 4000000 in
theorem S_L_exchange {d : Nat} (hd : 140 ≤ d) {a0 : Option Nat} {a1 : Int32} {a2 : Option Nat} {h : MH} {r : Int32} {hz : MH} (hK : F_L_exchange a0 a1 a2 h = some (r, hz)) : mm_MW yL_exchange cL_exchange 4 (some .int) [(0, 9, 12, 13)] d [va_rf a0, .int a1, va_rf a2] h (.inr (some (.int r))) hz := by
  refine mD_ofV (by decide +kernel) (by simp [lg_sl, mm_crf, mm_cti, mm_ctl]) (fun V C => ?_)
  have hLV : lv_args 0 [va_rf a0, .int a1, va_rf a2] = [(0, va_rf a0), (1, .int a1), (2, va_rf a2)] := by simp [lv_args, mm_crf, mm_cti, mm_ctl]
  rw [hLV]
  unfold F_L_exchange at hK
  obtain ⟨o4, hK⟩ := cV_some hK
  refine mD_aload_n C (pc := 0) 2 dL_exchange_0 rfl ?_
  refine mD_iconst C (pc := 1) (v := (0 : Int32)) dL_exchange_1 (by decide) ?_
  refine mD_aload_n C (pc := 2) 0 dL_exchange_2 rfl ?_
  refine mD_iload_n C (pc := 3) 1 dL_exchange_3 rfl ?_
  split at hK
  · cases hK
  · rename_i E h4 e4
    by_cases hE0 : E = "java/lang/IllegalArgumentException"
    · replace hK := mm_ip hE0 hK
      subst hE0
      refine mD_callVC C (pc := 4) (d1 := 139) (As := [.int a1]) (st := [.int (0 : Int32), va_rf a2]) (S_X11_exchange (by omega) e4) tT_X11_exchange o4 (Or.inr ⟨_, rfl, rfl⟩) wd_1159 wd_1160 wd_1161 (by omega) (by decide) rfl (by simp [mm_crf, mm_cti, mm_ctl]) rfl dL_exchange_4 [] ⟨0, 9, 12, 13⟩ [] rfl (fun z hz => nomatch hz) (by decide) (by decide) wd_1158 wc_java_lang_IllegalArgumentException (ka := 3) (by decide) (Or.inl ⟨3, rfl, rfl, dL_exchange_12⟩) ?_
      refine mD_iconst C (pc := 13) (v := (1 : Int32)) dL_exchange_13 (by decide) ?_
      cases hK
      exact mD_iret C (pc := 14) rfl dL_exchange_14 rfl rfl
    replace hK := mm_in hE0 hK
    cases hK
  · rename_i v4 h4 e4
    refine mD_callV C (pc := 4) (d1 := 139) (As := [.int a1]) (st := [.int (0 : Int32), va_rf a2]) (vk := (some (.int v4))) (S_X11_exchange (by omega) e4) tT_X11_exchange o4 (Or.inr ⟨_, rfl, rfl⟩) wd_1159 wd_1160 wd_1161 (by omega) (by decide) rfl (by simp [mm_crf, mm_cti, mm_ctl]) rfl dL_exchange_4 ?_
    show V _ _ (.int v4 :: _) _
    refine mD_i2l C (pc := 7) dL_exchange_7 ?_
    replace hK := mm_bd hK; obtain ⟨h8, e8, hK⟩ := hK
    refine mD_last C (pc := 8) dL_exchange_8 e8 ?_
    refine mD_goto C (pc := 9) (tgt := 15) dL_exchange_9 (by decide) ?_
    refine mD_iconst C (pc := 15) (v := (0 : Int32)) dL_exchange_15 (by decide) ?_
    cases hK
    exact mD_iret C (pc := 16) rfl dL_exchange_16 rfl rfl
theorem dL_line_0 : decode cL_line 0 = .ok (.aload_n 3, 1) := by decide +kernel
theorem dL_line_1 : decode cL_line 1 = .ok (.iconst 0, 1) := by decide +kernel
theorem dL_line_2 : decode cL_line 2 = .ok (.aload_n 0, 1) := by decide +kernel
theorem dL_line_3 : decode cL_line 3 = .ok (.iload_n 1, 1) := by decide +kernel
theorem dL_line_4 : decode cL_line 4 = .ok (.iload_n 2, 1) := by decide +kernel
theorem dL_line_5 : decode cL_line 5 = .ok (.invokevirtual 15, 3) := by decide +kernel
theorem dL_line_8 : decode cL_line 8 = .ok (.i2l, 1) := by decide +kernel
theorem dL_line_9 : decode cL_line 9 = .ok (.lastore, 1) := by decide +kernel
theorem dL_line_10 : decode cL_line 10 = .ok (.goto 11, 3) := by decide +kernel
theorem dL_line_13 : decode cL_line 13 = .ok (.astore 4, 2) := by decide +kernel
theorem dL_line_15 : decode cL_line 15 = .ok (.iconst 1, 1) := by decide +kernel
theorem dL_line_16 : decode cL_line 16 = .ok (.ireturn, 1) := by decide +kernel
theorem dL_line_17 : decode cL_line 17 = .ok (.astore 4, 2) := by decide +kernel
theorem dL_line_19 : decode cL_line 19 = .ok (.iconst 2, 1) := by decide +kernel
theorem dL_line_20 : decode cL_line 20 = .ok (.ireturn, 1) := by decide +kernel
theorem dL_line_21 : decode cL_line 21 = .ok (.iconst 0, 1) := by decide +kernel
theorem dL_line_22 : decode cL_line 22 = .ok (.ireturn, 1) := by decide +kernel
theorem wd_1426 : Cond.methodLink RL 15 yX11_line ∈ lw_good := mm_wd 1426 (by decide +kernel) (by decide +kernel)
theorem wd_1427 : Cond.instanceMethod yX11_line ∈ lw_good := mm_wd 1427 (by decide +kernel) (by decide +kernel)
theorem wd_1428 : Cond.selects RX11 yX11_line yX11_line ∈ lw_good := mm_wd 1428 (by decide +kernel) (by decide +kernel)
theorem wd_1429 : Cond.code yX11_line cX11_line 3 (some .int) ∈ lw_good := mm_wd 1429 (by decide +kernel) (by decide +kernel)
theorem tT_X11_line : mm_T yX11_line cX11_line 3 (some .int) 2 := ⟨wd_1429, wd_142, by decide +kernel, by decide +kernel, by decide +kernel, by decide +kernel⟩
theorem wd_1425 : Cond.classLink RL 19 "java/util/NoSuchElementException" ∈ lw_good := mm_wd 1425 (by decide +kernel) (by decide +kernel)
theorem wc_java_util_NoSuchElementException : Cond.castable "java/util/NoSuchElementException" "java/util/NoSuchElementException" ∈ mm_nw := List.mem_filter.mpr ⟨by decide +kernel, by decide +kernel⟩
def F_L_line (a0 : Option Nat) (a1 : Int32) (a2 : Int32) (a3 : Option Nat) (h : MH) : Option (Int32 × MH) := cV h a0 11 (match F_X11_line a0 a1 a2 h with
  | none => none
  | some (.inl E, h5) => if E = "java/util/NoSuchElementException" then some ((1 : Int32), h5) else if E = "java/lang/IllegalArgumentException" then some ((2 : Int32), h5) else none
  | some (.inr v5, h5) => (sL h5 a3 (0 : Int32) (v5.toInt64)).bind fun h9 => some ((0 : Int32), h9))
set_option maxRecDepth 20000 in
set_option maxHeartbeats 4000000 in
theorem S_L_line {d : Nat} (hd : 8 ≤ d) {a0 : Option Nat} {a1 : Int32} {a2 : Int32} {a3 : Option Nat} {h : MH} {r : Int32} {hz : MH} (hK : F_L_line a0 a1 a2 a3 h = some (r, hz)) : mm_MW yL_line cL_line 5 (some .int) [(0, 10, 13, 19), (0, 10, 17, 13)] d [va_rf a0, .int a1, .int a2, va_rf a3] h (.inr (some (.int r))) hz := by
  refine mD_ofV (by decide +kernel) (by simp [lg_sl, mm_crf, mm_cti, mm_ctl]) (fun V C => ?_)
  have hLV : lv_args 0 [va_rf a0, .int a1, .int a2, va_rf a3] = [(0, va_rf a0), (1, .int a1), (2, .int a2), (3, va_rf a3)] := by simp [lv_args, mm_crf, mm_cti, mm_ctl]
  rw [hLV]
  unfold F_L_line at hK
  obtain ⟨o5, hK⟩ := cV_some hK
  refine mD_aload_n C (pc := 0) 3 dL_line_0 rfl ?_
  refine mD_iconst C (pc := 1) (v := (0 : Int32)) dL_line_1 (by decide) ?_
  refine mD_aload_n C (pc := 2) 0 dL_line_2 rfl ?_
  refine mD_iload_n C (pc := 3) 1 dL_line_3 rfl ?_
  refine mD_iload_n C (pc := 4) 2 dL_line_4 rfl ?_
  split at hK
  · cases hK
  · rename_i E h5 e5
    by_cases hE0 : E = "java/util/NoSuchElementException"
    · replace hK := mm_ip hE0 hK
      subst hE0
      refine mD_callVC C (pc := 5) (d1 := 7) (As := [.int a1, .int a2]) (st := [.int (0 : Int32), va_rf a3]) (S_X11_line (by omega) e5) tT_X11_line o5 (Or.inr ⟨_, rfl, rfl⟩) wd_1426 wd_1427 wd_1428 (by omega) (by decide) rfl (by simp [mm_crf, mm_cti, mm_ctl]) rfl dL_line_5 [] ⟨0, 10, 13, 19⟩ [⟨0, 10, 17, 13⟩] rfl (fun z hz => nomatch hz) (by decide) (by decide) wd_1425 wc_java_util_NoSuchElementException (ka := 4) (by decide) (Or.inr ⟨rfl, dL_line_13⟩) ?_
      refine mD_iconst C (pc := 15) (v := (1 : Int32)) dL_line_15 (by decide) ?_
      cases hK
      exact mD_iret C (pc := 16) rfl dL_line_16 rfl rfl
    replace hK := mm_in hE0 hK
    by_cases hE1 : E = "java/lang/IllegalArgumentException"
    · replace hK := mm_ip hE1 hK
      subst hE1
      refine mD_callVC C (pc := 5) (d1 := 7) (As := [.int a1, .int a2]) (st := [.int (0 : Int32), va_rf a3]) (S_X11_line (by omega) e5) tT_X11_line o5 (Or.inr ⟨_, rfl, rfl⟩) wd_1426 wd_1427 wd_1428 (by omega) (by decide) rfl (by simp [mm_crf, mm_cti, mm_ctl]) rfl dL_line_5 [⟨0, 10, 13, 19⟩] ⟨0, 10, 17, 13⟩ [] rfl (by intro z hz; simp only [List.mem_cons, List.not_mem_nil, or_false] at hz; subst hz; exact Or.inr ⟨by decide, _, wd_1425, by decide⟩) (by decide) (by decide) wd_1158 wc_java_lang_IllegalArgumentException (ka := 4) (by decide) (Or.inr ⟨rfl, dL_line_17⟩) ?_
      refine mD_iconst C (pc := 19) (v := (2 : Int32)) dL_line_19 (by decide) ?_
      cases hK
      exact mD_iret C (pc := 20) rfl dL_line_20 rfl rfl
    replace hK := mm_in hE1 hK
    cases hK
  · rename_i v5 h5 e5
    refine mD_callV C (pc := 5) (d1 := 7) (As := [.int a1, .int a2]) (st := [.int (0 : Int32), va_rf a3]) (vk := (some (.int v5))) (S_X11_line (by omega) e5) tT_X11_line o5 (Or.inr ⟨_, rfl, rfl⟩) wd_1426 wd_1427 wd_1428 (by omega) (by decide) rfl (by simp [mm_crf, mm_cti, mm_ctl]) rfl dL_line_5 ?_
    show V _ _ (.int v5 :: _) _
    refine mD_i2l C (pc := 8) dL_line_8 ?_
    replace hK := mm_bd hK; obtain ⟨h9, e9, hK⟩ := hK
    refine mD_last C (pc := 9) dL_line_9 e9 ?_
    refine mD_goto C (pc := 10) (tgt := 21) dL_line_10 (by decide) ?_
    refine mD_iconst C (pc := 21) (v := (0 : Int32)) dL_line_21 (by decide) ?_
    cases hK
    exact mD_iret C (pc := 22) rfl dL_line_22 rfl rfl
theorem dL_cord_0 : decode cL_cord 0 = .ok (.aload_n 3, 1) := by decide +kernel
theorem dL_cord_1 : decode cL_cord 1 = .ok (.iconst 0, 1) := by decide +kernel
theorem dL_cord_2 : decode cL_cord 2 = .ok (.aload_n 0, 1) := by decide +kernel
theorem dL_cord_3 : decode cL_cord 3 = .ok (.iload_n 1, 1) := by decide +kernel
theorem dL_cord_4 : decode cL_cord 4 = .ok (.iload_n 2, 1) := by decide +kernel
theorem dL_cord_5 : decode cL_cord 5 = .ok (.invokevirtual 21, 3) := by decide +kernel
theorem dL_cord_8 : decode cL_cord 8 = .ok (.i2l, 1) := by decide +kernel
theorem dL_cord_9 : decode cL_cord 9 = .ok (.lastore, 1) := by decide +kernel
theorem dL_cord_10 : decode cL_cord 10 = .ok (.goto 11, 3) := by decide +kernel
theorem dL_cord_13 : decode cL_cord 13 = .ok (.astore 4, 2) := by decide +kernel
theorem dL_cord_15 : decode cL_cord 15 = .ok (.iconst 1, 1) := by decide +kernel
theorem dL_cord_16 : decode cL_cord 16 = .ok (.ireturn, 1) := by decide +kernel
theorem dL_cord_17 : decode cL_cord 17 = .ok (.astore 4, 2) := by decide +kernel
theorem dL_cord_19 : decode cL_cord 19 = .ok (.iconst 2, 1) := by decide +kernel
theorem dL_cord_20 : decode cL_cord 20 = .ok (.ireturn, 1) := by decide +kernel
theorem dL_cord_21 : decode cL_cord 21 = .ok (.iconst 0, 1) := by decide +kernel
theorem dL_cord_22 : decode cL_cord 22 = .ok (.ireturn, 1) := by decide +kernel
theorem wd_1458 : Cond.methodLink RL 21 yX11_cord ∈ lw_good := mm_wd 1458 (by decide +kernel) (by decide +kernel)
theorem wd_1459 : Cond.instanceMethod yX11_cord ∈ lw_good := mm_wd 1459 (by decide +kernel) (by decide +kernel)
theorem wd_1460 : Cond.selects RX11 yX11_cord yX11_cord ∈ lw_good := mm_wd 1460 (by decide +kernel) (by decide +kernel)
theorem wd_1461 : Cond.code yX11_cord cX11_cord 3 (some .int) ∈ lw_good := mm_wd 1461 (by decide +kernel) (by decide +kernel)
theorem tT_X11_cord : mm_T yX11_cord cX11_cord 3 (some .int) 2 := ⟨wd_1461, wd_142, by decide +kernel, by decide +kernel, by decide +kernel, by decide +kernel⟩
def F_L_cord (a0 : Option Nat) (a1 : Int32) (a2 : Int32) (a3 : Option Nat) (h : MH) : Option (Int32 × MH) := cV h a0 11 (match F_X11_cord a0 a1 a2 h with
  | none => none
  | some (.inl E, h5) => if E = "java/util/NoSuchElementException" then some ((1 : Int32), h5) else if E = "java/lang/IllegalArgumentException" then some ((2 : Int32), h5) else none
  | some (.inr v5, h5) => (sL h5 a3 (0 : Int32) (v5.toInt64)).bind fun h9 => some ((0 : Int32), h9))
set_option maxRecDepth 20000 in
set_option maxHeartbeats 4000000 in
theorem S_L_cord {d : Nat} (hd : 8 ≤ d) {a0 : Option Nat} {a1 : Int32} {a2 : Int32} {a3 : Option Nat} {h : MH} {r : Int32} {hz : MH} (hK : F_L_cord a0 a1 a2 a3 h = some (r, hz)) : mm_MW yL_cord cL_cord 5 (some .int) [(0, 10, 13, 19), (0, 10, 17, 13)] d [va_rf a0, .int a1, .int a2, va_rf a3] h (.inr (some (.int r))) hz := by
  refine mD_ofV (by decide +kernel) (by simp [lg_sl, mm_crf, mm_cti, mm_ctl]) (fun V C => ?_)
  have hLV : lv_args 0 [va_rf a0, .int a1, .int a2, va_rf a3] = [(0, va_rf a0), (1, .int a1), (2, .int a2), (3, va_rf a3)] := by simp [lv_args, mm_crf, mm_cti, mm_ctl]
  rw [hLV]
  unfold F_L_cord at hK
  obtain ⟨o5, hK⟩ := cV_some hK
  refine mD_aload_n C (pc := 0) 3 dL_cord_0 rfl ?_
  refine mD_iconst C (pc := 1) (v := (0 : Int32)) dL_cord_1 (by decide) ?_
  refine mD_aload_n C (pc := 2) 0 dL_cord_2 rfl ?_
  refine mD_iload_n C (pc := 3) 1 dL_cord_3 rfl ?_
  refine mD_iload_n C (pc := 4) 2 dL_cord_4 rfl ?_
  split at hK
  · cases hK
  · rename_i E h5 e5
    by_cases hE0 : E = "java/util/NoSuchElementException"
    · replace hK := mm_ip hE0 hK
      subst hE0
      refine mD_callVC C (pc := 5) (d1 := 7) (As := [.int a1, .int a2]) (st := [.int (0 : Int32), va_rf a3]) (S_X11_cord (by omega) e5) tT_X11_cord o5 (Or.inr ⟨_, rfl, rfl⟩) wd_1458 wd_1459 wd_1460 (by omega) (by decide) rfl (by simp [mm_crf, mm_cti, mm_ctl]) rfl dL_cord_5 [] ⟨0, 10, 13, 19⟩ [⟨0, 10, 17, 13⟩] rfl (fun z hz => nomatch hz) (by decide) (by decide) wd_1425 wc_java_util_NoSuchElementException (ka := 4) (by decide) (Or.inr ⟨rfl, dL_cord_13⟩) ?_
      refine mD_iconst C (pc := 15) (v := (1 : Int32)) dL_cord_15 (by decide) ?_
      cases hK
      exact mD_iret C (pc := 16) rfl dL_cord_16 rfl rfl
    replace hK := mm_in hE0 hK
    by_cases hE1 : E = "java/lang/IllegalArgumentException"
    · replace hK := mm_ip hE1 hK
      subst hE1
      refine mD_callVC C (pc := 5) (d1 := 7) (As := [.int a1, .int a2]) (st := [.int (0 : Int32), va_rf a3]) (S_X11_cord (by omega) e5) tT_X11_cord o5 (Or.inr ⟨_, rfl, rfl⟩) wd_1458 wd_1459 wd_1460 (by omega) (by decide) rfl (by simp [mm_crf, mm_cti, mm_ctl]) rfl dL_cord_5 [⟨0, 10, 13, 19⟩] ⟨0, 10, 17, 13⟩ [] rfl (by intro z hz; simp only [List.mem_cons, List.not_mem_nil, or_false] at hz; subst hz; exact Or.inr ⟨by decide, _, wd_1425, by decide⟩) (by decide) (by decide) wd_1158 wc_java_lang_IllegalArgumentException (ka := 4) (by decide) (Or.inr ⟨rfl, dL_cord_17⟩) ?_
      refine mD_iconst C (pc := 19) (v := (2 : Int32)) dL_cord_19 (by decide) ?_
      cases hK
      exact mD_iret C (pc := 20) rfl dL_cord_20 rfl rfl
    replace hK := mm_in hE1 hK
    cases hK
  · rename_i v5 h5 e5
    refine mD_callV C (pc := 5) (d1 := 7) (As := [.int a1, .int a2]) (st := [.int (0 : Int32), va_rf a3]) (vk := (some (.int v5))) (S_X11_cord (by omega) e5) tT_X11_cord o5 (Or.inr ⟨_, rfl, rfl⟩) wd_1458 wd_1459 wd_1460 (by omega) (by decide) rfl (by simp [mm_crf, mm_cti, mm_ctl]) rfl dL_cord_5 ?_
    show V _ _ (.int v5 :: _) _
    refine mD_i2l C (pc := 8) dL_cord_8 ?_
    replace hK := mm_bd hK; obtain ⟨h9, e9, hK⟩ := hK
    refine mD_last C (pc := 9) dL_cord_9 e9 ?_
    refine mD_goto C (pc := 10) (tgt := 21) dL_cord_10 (by decide) ?_
    refine mD_iconst C (pc := 21) (v := (0 : Int32)) dL_cord_21 (by decide) ?_
    cases hK
    exact mD_iret C (pc := 22) rfl dL_cord_22 rfl rfl
theorem dL_call_0 : decode cL_call 0 = .ok (.aload_n 3, 1) := by decide +kernel
theorem dL_call_1 : decode cL_call 1 = .ok (.iconst 0, 1) := by decide +kernel
theorem dL_call_2 : decode cL_call 2 = .ok (.aload_n 0, 1) := by decide +kernel
theorem dL_call_3 : decode cL_call 3 = .ok (.iload_n 1, 1) := by decide +kernel
theorem dL_call_4 : decode cL_call 4 = .ok (.iload_n 2, 1) := by decide +kernel
theorem dL_call_5 : decode cL_call 5 = .ok (.invokevirtual 24, 3) := by decide +kernel
theorem dL_call_8 : decode cL_call 8 = .ok (.i2l, 1) := by decide +kernel
theorem dL_call_9 : decode cL_call 9 = .ok (.lastore, 1) := by decide +kernel
theorem dL_call_10 : decode cL_call 10 = .ok (.goto 11, 3) := by decide +kernel
theorem dL_call_13 : decode cL_call 13 = .ok (.astore 4, 2) := by decide +kernel
theorem dL_call_15 : decode cL_call 15 = .ok (.iconst 1, 1) := by decide +kernel
theorem dL_call_16 : decode cL_call 16 = .ok (.ireturn, 1) := by decide +kernel
theorem dL_call_17 : decode cL_call 17 = .ok (.astore 4, 2) := by decide +kernel
theorem dL_call_19 : decode cL_call 19 = .ok (.iconst 2, 1) := by decide +kernel
theorem dL_call_20 : decode cL_call 20 = .ok (.ireturn, 1) := by decide +kernel
theorem dL_call_21 : decode cL_call 21 = .ok (.iconst 0, 1) := by decide +kernel
theorem dL_call_22 : decode cL_call 22 = .ok (.ireturn, 1) := by decide +kernel
theorem wd_1474 : Cond.methodLink RL 24 yX11_call ∈ lw_good := mm_wd 1474 (by decide +kernel) (by decide +kernel)
theorem wd_1475 : Cond.instanceMethod yX11_call ∈ lw_good := mm_wd 1475 (by decide +kernel) (by decide +kernel)
theorem wd_1476 : Cond.selects RX11 yX11_call yX11_call ∈ lw_good := mm_wd 1476 (by decide +kernel) (by decide +kernel)
theorem wd_1477 : Cond.code yX11_call cX11_call 3 (some .int) ∈ lw_good := mm_wd 1477 (by decide +kernel) (by decide +kernel)
theorem tT_X11_call : mm_T yX11_call cX11_call 3 (some .int) 2 := ⟨wd_1477, wd_142, by decide +kernel, by decide +kernel, by decide +kernel, by decide +kernel⟩
def F_L_call (a0 : Option Nat) (a1 : Int32) (a2 : Int32) (a3 : Option Nat) (h : MH) : Option (Int32 × MH) := cV h a0 11 (match F_X11_call a0 a1 a2 h with
  | none => none
  | some (.inl E, h5) => if E = "java/util/NoSuchElementException" then some ((1 : Int32), h5) else if E = "java/lang/IllegalArgumentException" then some ((2 : Int32), h5) else none
  | some (.inr v5, h5) => (sL h5 a3 (0 : Int32) (v5.toInt64)).bind fun h9 => some ((0 : Int32), h9))
set_option maxRecDepth 20000 in
set_option maxHeartbeats 4000000 in
theorem S_L_call {d : Nat} (hd : 8 ≤ d) {a0 : Option Nat} {a1 : Int32} {a2 : Int32} {a3 : Option Nat} {h : MH} {r : Int32} {hz : MH} (hK : F_L_call a0 a1 a2 a3 h = some (r, hz)) : mm_MW yL_call cL_call 5 (some .int) [(0, 10, 13, 19), (0, 10, 17, 13)] d [va_rf a0, .int a1, .int a2, va_rf a3] h (.inr (some (.int r))) hz := by
  refine mD_ofV (by decide +kernel) (by simp [lg_sl, mm_crf, mm_cti, mm_ctl]) (fun V C => ?_)
  have hLV : lv_args 0 [va_rf a0, .int a1, .int a2, va_rf a3] = [(0, va_rf a0), (1, .int a1), (2, .int a2), (3, va_rf a3)] := by simp [lv_args, mm_crf, mm_cti, mm_ctl]
  rw [hLV]
  unfold F_L_call at hK
  obtain ⟨o5, hK⟩ := cV_some hK
  refine mD_aload_n C (pc := 0) 3 dL_call_0 rfl ?_
  refine mD_iconst C (pc := 1) (v := (0 : Int32)) dL_call_1 (by decide) ?_
  refine mD_aload_n C (pc := 2) 0 dL_call_2 rfl ?_
  refine mD_iload_n C (pc := 3) 1 dL_call_3 rfl ?_
  refine mD_iload_n C (pc := 4) 2 dL_call_4 rfl ?_
  split at hK
  · cases hK
  · rename_i E h5 e5
    by_cases hE0 : E = "java/util/NoSuchElementException"
    · replace hK := mm_ip hE0 hK
      subst hE0
      refine mD_callVC C (pc := 5) (d1 := 7) (As := [.int a1, .int a2]) (st := [.int (0 : Int32), va_rf a3]) (S_X11_call (by omega) e5) tT_X11_call o5 (Or.inr ⟨_, rfl, rfl⟩) wd_1474 wd_1475 wd_1476 (by omega) (by decide) rfl (by simp [mm_crf, mm_cti, mm_ctl]) rfl dL_call_5 [] ⟨0, 10, 13, 19⟩ [⟨0, 10, 17, 13⟩] rfl (fun z hz => nomatch hz) (by decide) (by decide) wd_1425 wc_java_util_NoSuchElementException (ka := 4) (by decide) (Or.inr ⟨rfl, dL_call_13⟩) ?_
      refine mD_iconst C (pc := 15) (v := (1 : Int32)) dL_call_15 (by decide) ?_
      cases hK
      exact mD_iret C (pc := 16) rfl dL_call_16 rfl rfl
    replace hK := mm_in hE0 hK
    by_cases hE1 : E = "java/lang/IllegalArgumentException"
    · replace hK := mm_ip hE1 hK
      subst hE1
      refine mD_callVC C (pc := 5) (d1 := 7) (As := [.int a1, .int a2]) (st := [.int (0 : Int32), va_rf a3]) (S_X11_call (by omega) e5) tT_X11_call o5 (Or.inr ⟨_, rfl, rfl⟩) wd_1474 wd_1475 wd_1476 (by omega) (by decide) rfl (by simp [mm_crf, mm_cti, mm_ctl]) rfl dL_call_5 [⟨0, 10, 13, 19⟩] ⟨0, 10, 17, 13⟩ [] rfl (by intro z hz; simp only [List.mem_cons, List.not_mem_nil, or_false] at hz; subst hz; exact Or.inr ⟨by decide, _, wd_1425, by decide⟩) (by decide) (by decide) wd_1158 wc_java_lang_IllegalArgumentException (ka := 4) (by decide) (Or.inr ⟨rfl, dL_call_17⟩) ?_
      refine mD_iconst C (pc := 19) (v := (2 : Int32)) dL_call_19 (by decide) ?_
      cases hK
      exact mD_iret C (pc := 20) rfl dL_call_20 rfl rfl
    replace hK := mm_in hE1 hK
    cases hK
  · rename_i v5 h5 e5
    refine mD_callV C (pc := 5) (d1 := 7) (As := [.int a1, .int a2]) (st := [.int (0 : Int32), va_rf a3]) (vk := (some (.int v5))) (S_X11_call (by omega) e5) tT_X11_call o5 (Or.inr ⟨_, rfl, rfl⟩) wd_1474 wd_1475 wd_1476 (by omega) (by decide) rfl (by simp [mm_crf, mm_cti, mm_ctl]) rfl dL_call_5 ?_
    show V _ _ (.int v5 :: _) _
    refine mD_i2l C (pc := 8) dL_call_8 ?_
    replace hK := mm_bd hK; obtain ⟨h9, e9, hK⟩ := hK
    refine mD_last C (pc := 9) dL_call_9 e9 ?_
    refine mD_goto C (pc := 10) (tgt := 21) dL_call_10 (by decide) ?_
    refine mD_iconst C (pc := 21) (v := (0 : Int32)) dL_call_21 (by decide) ?_
    cases hK
    exact mD_iret C (pc := 22) rfl dL_call_22 rfl rfl
theorem dL_likes_0 : decode cL_likes 0 = .ok (.aload_n 3, 1) := by decide +kernel
theorem dL_likes_1 : decode cL_likes 1 = .ok (.iconst 0, 1) := by decide +kernel
theorem dL_likes_2 : decode cL_likes 2 = .ok (.aload_n 0, 1) := by decide +kernel
theorem dL_likes_3 : decode cL_likes 3 = .ok (.iload_n 1, 1) := by decide +kernel
theorem dL_likes_4 : decode cL_likes 4 = .ok (.iload_n 2, 1) := by decide +kernel
theorem dL_likes_5 : decode cL_likes 5 = .ok (.invokevirtual 27, 3) := by decide +kernel
theorem dL_likes_8 : decode cL_likes 8 = .ok (.i2l, 1) := by decide +kernel
theorem dL_likes_9 : decode cL_likes 9 = .ok (.lastore, 1) := by decide +kernel
theorem dL_likes_10 : decode cL_likes 10 = .ok (.goto 7, 3) := by decide +kernel
theorem dL_likes_13 : decode cL_likes 13 = .ok (.astore 4, 2) := by decide +kernel
theorem dL_likes_15 : decode cL_likes 15 = .ok (.iconst 1, 1) := by decide +kernel
theorem dL_likes_16 : decode cL_likes 16 = .ok (.ireturn, 1) := by decide +kernel
theorem dL_likes_17 : decode cL_likes 17 = .ok (.iconst 0, 1) := by decide +kernel
theorem dL_likes_18 : decode cL_likes 18 = .ok (.ireturn, 1) := by decide +kernel
theorem wd_1486 : Cond.methodLink RL 27 yX11_likes ∈ lw_good := mm_wd 1486 (by decide +kernel) (by decide +kernel)
theorem wd_1487 : Cond.instanceMethod yX11_likes ∈ lw_good := mm_wd 1487 (by decide +kernel) (by decide +kernel)
theorem wd_1488 : Cond.selects RX11 yX11_likes yX11_likes ∈ lw_good := mm_wd 1488 (by decide +kernel) (by decide +kernel)
theorem wd_1489 : Cond.code yX11_likes cX11_likes 3 (some .int) ∈ lw_good := mm_wd 1489 (by decide +kernel) (by decide +kernel)
theorem tT_X11_likes : mm_T yX11_likes cX11_likes 3 (some .int) 2 := ⟨wd_1489, wd_142, by decide +kernel, by decide +kernel, by decide +kernel, by decide +kernel⟩
def F_L_likes (a0 : Option Nat) (a1 : Int32) (a2 : Int32) (a3 : Option Nat) (h : MH) : Option (Int32 × MH) := cV h a0 11 (match F_X11_likes a0 a1 a2 h with
  | none => none
  | some (.inl E, h5) => if E = "java/util/NoSuchElementException" then some ((1 : Int32), h5) else none
  | some (.inr v5, h5) => (sL h5 a3 (0 : Int32) (v5.toInt64)).bind fun h9 => some ((0 : Int32), h9))
set_option maxRecDepth 20000 in
set_option maxHeartbeats 4000000 in
theorem S_L_likes {d : Nat} (hd : 8 ≤ d) {a0 : Option Nat} {a1 : Int32} {a2 : Int32} {a3 : Option Nat} {h : MH} {r : Int32} {hz : MH} (hK : F_L_likes a0 a1 a2 a3 h = some (r, hz)) : mm_MW yL_likes cL_likes 5 (some .int) [(0, 10, 13, 19)] d [va_rf a0, .int a1, .int a2, va_rf a3] h (.inr (some (.int r))) hz := by
  refine mD_ofV (by decide +kernel) (by simp [lg_sl, mm_crf, mm_cti, mm_ctl]) (fun V C => ?_)
  have hLV : lv_args 0 [va_rf a0, .int a1, .int a2, va_rf a3] = [(0, va_rf a0), (1, .int a1), (2, .int a2), (3, va_rf a3)] := by simp [lv_args, mm_crf, mm_cti, mm_ctl]
  rw [hLV]
  unfold F_L_likes at hK
  obtain ⟨o5, hK⟩ := cV_some hK
  refine mD_aload_n C (pc := 0) 3 dL_likes_0 rfl ?_
  refine mD_iconst C (pc := 1) (v := (0 : Int32)) dL_likes_1 (by decide) ?_
  refine mD_aload_n C (pc := 2) 0 dL_likes_2 rfl ?_
  refine mD_iload_n C (pc := 3) 1 dL_likes_3 rfl ?_
  refine mD_iload_n C (pc := 4) 2 dL_likes_4 rfl ?_
  split at hK
  · cases hK
  · rename_i E h5 e5
    by_cases hE0 : E = "java/util/NoSuchElementException"
    · replace hK := mm_ip hE0 hK
      subst hE0
      refine mD_callVC C (pc := 5) (d1 := 7) (As := [.int a1, .int a2]) (st := [.int (0 : Int32), va_rf a3]) (S_X11_likes (by omega) e5) tT_X11_likes o5 (Or.inr ⟨_, rfl, rfl⟩) wd_1486 wd_1487 wd_1488 (by omega) (by decide) rfl (by simp [mm_crf, mm_cti, mm_ctl]) rfl dL_likes_5 [] ⟨0, 10, 13, 19⟩ [] rfl (fun z hz => nomatch hz) (by decide) (by decide) wd_1425 wc_java_util_NoSuchElementException (ka := 4) (by decide) (Or.inr ⟨rfl, dL_likes_13⟩) ?_
      refine mD_iconst C (pc := 15) (v := (1 : Int32)) dL_likes_15 (by decide) ?_
      cases hK
      exact mD_iret C (pc := 16) rfl dL_likes_16 rfl rfl
    replace hK := mm_in hE0 hK
    cases hK
  · rename_i v5 h5 e5
    refine mD_callV C (pc := 5) (d1 := 7) (As := [.int a1, .int a2]) (st := [.int (0 : Int32), va_rf a3]) (vk := (some (.int v5))) (S_X11_likes (by omega) e5) tT_X11_likes o5 (Or.inr ⟨_, rfl, rfl⟩) wd_1486 wd_1487 wd_1488 (by omega) (by decide) rfl (by simp [mm_crf, mm_cti, mm_ctl]) rfl dL_likes_5 ?_
    show V _ _ (.int v5 :: _) _
    refine mD_i2l C (pc := 8) dL_likes_8 ?_
    replace hK := mm_bd hK; obtain ⟨h9, e9, hK⟩ := hK
    refine mD_last C (pc := 9) dL_likes_9 e9 ?_
    refine mD_goto C (pc := 10) (tgt := 17) dL_likes_10 (by decide) ?_
    refine mD_iconst C (pc := 17) (v := (0 : Int32)) dL_likes_17 (by decide) ?_
    cases hK
    exact mD_iret C (pc := 18) rfl dL_likes_18 rfl rfl
theorem dL_comesTo_0 : decode cL_comesTo 0 = .ok (.aload_n 3, 1) := by decide +kernel
theorem dL_comesTo_1 : decode cL_comesTo 1 = .ok (.iconst 0, 1) := by decide +kernel
theorem dL_comesTo_2 : decode cL_comesTo 2 = .ok (.aload_n 0, 1) := by decide +kernel
theorem dL_comesTo_3 : decode cL_comesTo 3 = .ok (.iload_n 1, 1) := by decide +kernel
theorem dL_comesTo_4 : decode cL_comesTo 4 = .ok (.iload_n 2, 1) := by decide +kernel
theorem dL_comesTo_5 : decode cL_comesTo 5 = .ok (.invokevirtual 30, 3) := by decide +kernel
theorem dL_comesTo_8 : decode cL_comesTo 8 = .ok (.i2l, 1) := by decide +kernel
theorem dL_comesTo_9 : decode cL_comesTo 9 = .ok (.lastore, 1) := by decide +kernel
theorem dL_comesTo_10 : decode cL_comesTo 10 = .ok (.goto 11, 3) := by decide +kernel
theorem dL_comesTo_13 : decode cL_comesTo 13 = .ok (.astore 4, 2) := by decide +kernel
theorem dL_comesTo_15 : decode cL_comesTo 15 = .ok (.iconst 1, 1) := by decide +kernel
theorem dL_comesTo_16 : decode cL_comesTo 16 = .ok (.ireturn, 1) := by decide +kernel
theorem dL_comesTo_17 : decode cL_comesTo 17 = .ok (.astore 4, 2) := by decide +kernel
theorem dL_comesTo_19 : decode cL_comesTo 19 = .ok (.iconst 2, 1) := by decide +kernel
theorem dL_comesTo_20 : decode cL_comesTo 20 = .ok (.ireturn, 1) := by decide +kernel
theorem dL_comesTo_21 : decode cL_comesTo 21 = .ok (.iconst 0, 1) := by decide +kernel
theorem dL_comesTo_22 : decode cL_comesTo 22 = .ok (.ireturn, 1) := by decide +kernel
theorem wd_1493 : Cond.methodLink RL 30 yX11_comesTo ∈ lw_good := mm_wd 1493 (by decide +kernel) (by decide +kernel)
theorem wd_1494 : Cond.instanceMethod yX11_comesTo ∈ lw_good := mm_wd 1494 (by decide +kernel) (by decide +kernel)
theorem wd_1495 : Cond.selects RX11 yX11_comesTo yX11_comesTo ∈ lw_good := mm_wd 1495 (by decide +kernel) (by decide +kernel)
theorem wd_1496 : Cond.code yX11_comesTo cX11_comesTo 3 (some .int) ∈ lw_good := mm_wd 1496 (by decide +kernel) (by decide +kernel)
theorem tT_X11_comesTo : mm_T yX11_comesTo cX11_comesTo 3 (some .int) 2 := ⟨wd_1496, wd_142, by decide +kernel, by decide +kernel, by decide +kernel, by decide +kernel⟩
def F_L_comesTo (a0 : Option Nat) (a1 : Int32) (a2 : Int32) (a3 : Option Nat) (h : MH) : Option (Int32 × MH) := cV h a0 11 (match F_X11_comesTo a0 a1 a2 h with
  | none => none
  | some (.inl E, h5) => if E = "java/util/NoSuchElementException" then some ((1 : Int32), h5) else if E = "java/lang/IllegalArgumentException" then some ((2 : Int32), h5) else none
  | some (.inr v5, h5) => (sL h5 a3 (0 : Int32) (v5.toInt64)).bind fun h9 => some ((0 : Int32), h9))
set_option maxRecDepth 20000 in
set_option maxHeartbeats 4000000 in
theorem S_L_comesTo {d : Nat} (hd : 8 ≤ d) {a0 : Option Nat} {a1 : Int32} {a2 : Int32} {a3 : Option Nat} {h : MH} {r : Int32} {hz : MH} (hK : F_L_comesTo a0 a1 a2 a3 h = some (r, hz)) : mm_MW yL_comesTo cL_comesTo 5 (some .int) [(0, 10, 13, 19), (0, 10, 17, 13)] d [va_rf a0, .int a1, .int a2, va_rf a3] h (.inr (some (.int r))) hz := by
  refine mD_ofV (by decide +kernel) (by simp [lg_sl, mm_crf, mm_cti, mm_ctl]) (fun V C => ?_)
  have hLV : lv_args 0 [va_rf a0, .int a1, .int a2, va_rf a3] = [(0, va_rf a0), (1, .int a1), (2, .int a2), (3, va_rf a3)] := by simp [lv_args, mm_crf, mm_cti, mm_ctl]
  rw [hLV]
  unfold F_L_comesTo at hK
  obtain ⟨o5, hK⟩ := cV_some hK
  refine mD_aload_n C (pc := 0) 3 dL_comesTo_0 rfl ?_
  refine mD_iconst C (pc := 1) (v := (0 : Int32)) dL_comesTo_1 (by decide) ?_
  refine mD_aload_n C (pc := 2) 0 dL_comesTo_2 rfl ?_
  refine mD_iload_n C (pc := 3) 1 dL_comesTo_3 rfl ?_
  refine mD_iload_n C (pc := 4) 2 dL_comesTo_4 rfl ?_
  split at hK
  · cases hK
  · rename_i E h5 e5
    by_cases hE0 : E = "java/util/NoSuchElementException"
    · replace hK := mm_ip hE0 hK
      subst hE0
      refine mD_callVC C (pc := 5) (d1 := 7) (As := [.int a1, .int a2]) (st := [.int (0 : Int32), va_rf a3]) (S_X11_comesTo (by omega) e5) tT_X11_comesTo o5 (Or.inr ⟨_, rfl, rfl⟩) wd_1493 wd_1494 wd_1495 (by omega) (by decide) rfl (by simp [mm_crf, mm_cti, mm_ctl]) rfl dL_comesTo_5 [] ⟨0, 10, 13, 19⟩ [⟨0, 10, 17, 13⟩] rfl (fun z hz => nomatch hz) (by decide) (by decide) wd_1425 wc_java_util_NoSuchElementException (ka := 4) (by decide) (Or.inr ⟨rfl, dL_comesTo_13⟩) ?_
      refine mD_iconst C (pc := 15) (v := (1 : Int32)) dL_comesTo_15 (by decide) ?_
      cases hK
      exact mD_iret C (pc := 16) rfl dL_comesTo_16 rfl rfl
    replace hK := mm_in hE0 hK
    by_cases hE1 : E = "java/lang/IllegalArgumentException"
    · replace hK := mm_ip hE1 hK
      subst hE1
      refine mD_callVC C (pc := 5) (d1 := 7) (As := [.int a1, .int a2]) (st := [.int (0 : Int32), va_rf a3]) (S_X11_comesTo (by omega) e5) tT_X11_comesTo o5 (Or.inr ⟨_, rfl, rfl⟩) wd_1493 wd_1494 wd_1495 (by omega) (by decide) rfl (by simp [mm_crf, mm_cti, mm_ctl]) rfl dL_comesTo_5 [⟨0, 10, 13, 19⟩] ⟨0, 10, 17, 13⟩ [] rfl (by intro z hz; simp only [List.mem_cons, List.not_mem_nil, or_false] at hz; subst hz; exact Or.inr ⟨by decide, _, wd_1425, by decide⟩) (by decide) (by decide) wd_1158 wc_java_lang_IllegalArgumentException (ka := 4) (by decide) (Or.inr ⟨rfl, dL_comesTo_17⟩) ?_
      refine mD_iconst C (pc := 19) (v := (2 : Int32)) dL_comesTo_19 (by decide) ?_
      cases hK
      exact mD_iret C (pc := 20) rfl dL_comesTo_20 rfl rfl
    replace hK := mm_in hE1 hK
    cases hK
  · rename_i v5 h5 e5
    refine mD_callV C (pc := 5) (d1 := 7) (As := [.int a1, .int a2]) (st := [.int (0 : Int32), va_rf a3]) (vk := (some (.int v5))) (S_X11_comesTo (by omega) e5) tT_X11_comesTo o5 (Or.inr ⟨_, rfl, rfl⟩) wd_1493 wd_1494 wd_1495 (by omega) (by decide) rfl (by simp [mm_crf, mm_cti, mm_ctl]) rfl dL_comesTo_5 ?_
    show V _ _ (.int v5 :: _) _
    refine mD_i2l C (pc := 8) dL_comesTo_8 ?_
    replace hK := mm_bd hK; obtain ⟨h9, e9, hK⟩ := hK
    refine mD_last C (pc := 9) dL_comesTo_9 e9 ?_
    refine mD_goto C (pc := 10) (tgt := 21) dL_comesTo_10 (by decide) ?_
    refine mD_iconst C (pc := 21) (v := (0 : Int32)) dL_comesTo_21 (by decide) ?_
    cases hK
    exact mD_iret C (pc := 22) rfl dL_comesTo_22 rfl rfl
theorem dL_door_0 : decode cL_door 0 = .ok (.aload_n 2, 1) := by decide +kernel
theorem dL_door_1 : decode cL_door 1 = .ok (.iconst 0, 1) := by decide +kernel
theorem dL_door_2 : decode cL_door 2 = .ok (.aload_n 0, 1) := by decide +kernel
theorem dL_door_3 : decode cL_door 3 = .ok (.iload_n 1, 1) := by decide +kernel
theorem dL_door_4 : decode cL_door 4 = .ok (.invokevirtual 33, 3) := by decide +kernel
theorem dL_door_7 : decode cL_door 7 = .ok (.i2l, 1) := by decide +kernel
theorem dL_door_8 : decode cL_door 8 = .ok (.lastore, 1) := by decide +kernel
theorem dL_door_9 : decode cL_door 9 = .ok (.goto 6, 3) := by decide +kernel
theorem dL_door_12 : decode cL_door 12 = .ok (.astore_n 3, 1) := by decide +kernel
theorem dL_door_13 : decode cL_door 13 = .ok (.iconst 1, 1) := by decide +kernel
theorem dL_door_14 : decode cL_door 14 = .ok (.ireturn, 1) := by decide +kernel
theorem dL_door_15 : decode cL_door 15 = .ok (.iconst 0, 1) := by decide +kernel
theorem dL_door_16 : decode cL_door 16 = .ok (.ireturn, 1) := by decide +kernel
theorem wd_1501 : Cond.methodLink RL 33 yX11_door ∈ lw_good := mm_wd 1501 (by decide +kernel) (by decide +kernel)
theorem wd_1502 : Cond.instanceMethod yX11_door ∈ lw_good := mm_wd 1502 (by decide +kernel) (by decide +kernel)
theorem wd_1503 : Cond.selects RX11 yX11_door yX11_door ∈ lw_good := mm_wd 1503 (by decide +kernel) (by decide +kernel)
theorem wd_1504 : Cond.code yX11_door cX11_door 2 (some .int) ∈ lw_good := mm_wd 1504 (by decide +kernel) (by decide +kernel)
theorem tT_X11_door : mm_T yX11_door cX11_door 2 (some .int) 1 := ⟨wd_1504, wd_142, by decide +kernel, by decide +kernel, by decide +kernel, by decide +kernel⟩
def F_L_door (a0 : Option Nat) (a1 : Int32) (a2 : Option Nat) (h : MH) : Option (Int32 × MH) := cV h a0 11 (match F_X11_door a0 a1 h with
  | none => none
  | some (.inl E, h4) => if E = "java/util/NoSuchElementException" then some ((1 : Int32), h4) else none
  | some (.inr v4, h4) => (sL h4 a2 (0 : Int32) (v4.toInt64)).bind fun h8 => some ((0 : Int32), h8))
set_option maxRecDepth 20000 in
set_option maxHeartbeats 4000000 in
theorem S_L_door {d : Nat} (hd : 8 ≤ d) {a0 : Option Nat} {a1 : Int32} {a2 : Option Nat} {h : MH} {r : Int32} {hz : MH} (hK : F_L_door a0 a1 a2 h = some (r, hz)) : mm_MW yL_door cL_door 4 (some .int) [(0, 9, 12, 19)] d [va_rf a0, .int a1, va_rf a2] h (.inr (some (.int r))) hz := by
  refine mD_ofV (by decide +kernel) (by simp [lg_sl, mm_crf, mm_cti, mm_ctl]) (fun V C => ?_)
  have hLV : lv_args 0 [va_rf a0, .int a1, va_rf a2] = [(0, va_rf a0), (1, .int a1), (2, va_rf a2)] := by simp [lv_args, mm_crf, mm_cti, mm_ctl]
  rw [hLV]
  unfold F_L_door at hK
  obtain ⟨o4, hK⟩ := cV_some hK
  refine mD_aload_n C (pc := 0) 2 dL_door_0 rfl ?_
  refine mD_iconst C (pc := 1) (v := (0 : Int32)) dL_door_1 (by decide) ?_
  refine mD_aload_n C (pc := 2) 0 dL_door_2 rfl ?_
  refine mD_iload_n C (pc := 3) 1 dL_door_3 rfl ?_
  split at hK
  · cases hK
  · rename_i E h4 e4
    by_cases hE0 : E = "java/util/NoSuchElementException"
    · replace hK := mm_ip hE0 hK
      subst hE0
      refine mD_callVC C (pc := 4) (d1 := 7) (As := [.int a1]) (st := [.int (0 : Int32), va_rf a2]) (S_X11_door (by omega) e4) tT_X11_door o4 (Or.inr ⟨_, rfl, rfl⟩) wd_1501 wd_1502 wd_1503 (by omega) (by decide) rfl (by simp [mm_crf, mm_cti, mm_ctl]) rfl dL_door_4 [] ⟨0, 9, 12, 19⟩ [] rfl (fun z hz => nomatch hz) (by decide) (by decide) wd_1425 wc_java_util_NoSuchElementException (ka := 3) (by decide) (Or.inl ⟨3, rfl, rfl, dL_door_12⟩) ?_
      refine mD_iconst C (pc := 13) (v := (1 : Int32)) dL_door_13 (by decide) ?_
      cases hK
      exact mD_iret C (pc := 14) rfl dL_door_14 rfl rfl
    replace hK := mm_in hE0 hK
    cases hK
  · rename_i v4 h4 e4
    refine mD_callV C (pc := 4) (d1 := 7) (As := [.int a1]) (st := [.int (0 : Int32), va_rf a2]) (vk := (some (.int v4))) (S_X11_door (by omega) e4) tT_X11_door o4 (Or.inr ⟨_, rfl, rfl⟩) wd_1501 wd_1502 wd_1503 (by omega) (by decide) rfl (by simp [mm_crf, mm_cti, mm_ctl]) rfl dL_door_4 ?_
    show V _ _ (.int v4 :: _) _
    refine mD_i2l C (pc := 7) dL_door_7 ?_
    replace hK := mm_bd hK; obtain ⟨h8, e8, hK⟩ := hK
    refine mD_last C (pc := 8) dL_door_8 e8 ?_
    refine mD_goto C (pc := 9) (tgt := 15) dL_door_9 (by decide) ?_
    refine mD_iconst C (pc := 15) (v := (0 : Int32)) dL_door_15 (by decide) ?_
    cases hK
    exact mD_iret C (pc := 16) rfl dL_door_16 rfl rfl
theorem dL_minutes_0 : decode cL_minutes 0 = .ok (.aload_n 2, 1) := by decide +kernel
theorem dL_minutes_1 : decode cL_minutes 1 = .ok (.iconst 0, 1) := by decide +kernel
theorem dL_minutes_2 : decode cL_minutes 2 = .ok (.aload_n 0, 1) := by decide +kernel
theorem dL_minutes_3 : decode cL_minutes 3 = .ok (.iload_n 1, 1) := by decide +kernel
theorem dL_minutes_4 : decode cL_minutes 4 = .ok (.invokevirtual 36, 3) := by decide +kernel
theorem dL_minutes_7 : decode cL_minutes 7 = .ok (.i2l, 1) := by decide +kernel
theorem dL_minutes_8 : decode cL_minutes 8 = .ok (.lastore, 1) := by decide +kernel
theorem dL_minutes_9 : decode cL_minutes 9 = .ok (.goto 6, 3) := by decide +kernel
theorem dL_minutes_12 : decode cL_minutes 12 = .ok (.astore_n 3, 1) := by decide +kernel
theorem dL_minutes_13 : decode cL_minutes 13 = .ok (.iconst 1, 1) := by decide +kernel
theorem dL_minutes_14 : decode cL_minutes 14 = .ok (.ireturn, 1) := by decide +kernel
theorem dL_minutes_15 : decode cL_minutes 15 = .ok (.iconst 0, 1) := by decide +kernel
theorem dL_minutes_16 : decode cL_minutes 16 = .ok (.ireturn, 1) := by decide +kernel
theorem wd_1512 : Cond.methodLink RL 36 yX11_minutes ∈ lw_good := mm_wd 1512 (by decide +kernel) (by decide +kernel)
theorem wd_1513 : Cond.instanceMethod yX11_minutes ∈ lw_good := mm_wd 1513 (by decide +kernel) (by decide +kernel)
theorem wd_1514 : Cond.selects RX11 yX11_minutes yX11_minutes ∈ lw_good := mm_wd 1514 (by decide +kernel) (by decide +kernel)
theorem wd_1515 : Cond.code yX11_minutes cX11_minutes 2 (some .int) ∈ lw_good := mm_wd 1515 (by decide +kernel) (by decide +kernel)
theorem tT_X11_minutes : mm_T yX11_minutes cX11_minutes 2 (some .int) 1 := ⟨wd_1515, wd_142, by decide +kernel, by decide +kernel, by decide +kernel, by decide +kernel⟩
def F_L_minutes (a0 : Option Nat) (a1 : Int32) (a2 : Option Nat) (h : MH) : Option (Int32 × MH) := cV h a0 11 (match F_X11_minutes a0 a1 h with
  | none => none
  | some (.inl E, h4) => if E = "java/lang/IllegalArgumentException" then some ((1 : Int32), h4) else none
  | some (.inr v4, h4) => (sL h4 a2 (0 : Int32) (v4.toInt64)).bind fun h8 => some ((0 : Int32), h8))
set_option maxRecDepth 20000 in
set_option maxHeartbeats 4000000 in
theorem S_L_minutes {d : Nat} (hd : 8 ≤ d) {a0 : Option Nat} {a1 : Int32} {a2 : Option Nat} {h : MH} {r : Int32} {hz : MH} (hK : F_L_minutes a0 a1 a2 h = some (r, hz)) : mm_MW yL_minutes cL_minutes 4 (some .int) [(0, 9, 12, 13)] d [va_rf a0, .int a1, va_rf a2] h (.inr (some (.int r))) hz := by
  refine mD_ofV (by decide +kernel) (by simp [lg_sl, mm_crf, mm_cti, mm_ctl]) (fun V C => ?_)
  have hLV : lv_args 0 [va_rf a0, .int a1, va_rf a2] = [(0, va_rf a0), (1, .int a1), (2, va_rf a2)] := by simp [lv_args, mm_crf, mm_cti, mm_ctl]
  rw [hLV]
  unfold F_L_minutes at hK
  obtain ⟨o4, hK⟩ := cV_some hK
  refine mD_aload_n C (pc := 0) 2 dL_minutes_0 rfl ?_
  refine mD_iconst C (pc := 1) (v := (0 : Int32)) dL_minutes_1 (by decide) ?_
  refine mD_aload_n C (pc := 2) 0 dL_minutes_2 rfl ?_
  refine mD_iload_n C (pc := 3) 1 dL_minutes_3 rfl ?_
  split at hK
  · cases hK
  · rename_i E h4 e4
    by_cases hE0 : E = "java/lang/IllegalArgumentException"
    · replace hK := mm_ip hE0 hK
      subst hE0
      refine mD_callVC C (pc := 4) (d1 := 7) (As := [.int a1]) (st := [.int (0 : Int32), va_rf a2]) (S_X11_minutes (by omega) e4) tT_X11_minutes o4 (Or.inr ⟨_, rfl, rfl⟩) wd_1512 wd_1513 wd_1514 (by omega) (by decide) rfl (by simp [mm_crf, mm_cti, mm_ctl]) rfl dL_minutes_4 [] ⟨0, 9, 12, 13⟩ [] rfl (fun z hz => nomatch hz) (by decide) (by decide) wd_1158 wc_java_lang_IllegalArgumentException (ka := 3) (by decide) (Or.inl ⟨3, rfl, rfl, dL_minutes_12⟩) ?_
      refine mD_iconst C (pc := 13) (v := (1 : Int32)) dL_minutes_13 (by decide) ?_
      cases hK
      exact mD_iret C (pc := 14) rfl dL_minutes_14 rfl rfl
    replace hK := mm_in hE0 hK
    cases hK
  · rename_i v4 h4 e4
    refine mD_callV C (pc := 4) (d1 := 7) (As := [.int a1]) (st := [.int (0 : Int32), va_rf a2]) (vk := (some (.int v4))) (S_X11_minutes (by omega) e4) tT_X11_minutes o4 (Or.inr ⟨_, rfl, rfl⟩) wd_1512 wd_1513 wd_1514 (by omega) (by decide) rfl (by simp [mm_crf, mm_cti, mm_ctl]) rfl dL_minutes_4 ?_
    show V _ _ (.int v4 :: _) _
    refine mD_i2l C (pc := 7) dL_minutes_7 ?_
    replace hK := mm_bd hK; obtain ⟨h8, e8, hK⟩ := hK
    refine mD_last C (pc := 8) dL_minutes_8 e8 ?_
    refine mD_goto C (pc := 9) (tgt := 15) dL_minutes_9 (by decide) ?_
    refine mD_iconst C (pc := 15) (v := (0 : Int32)) dL_minutes_15 (by decide) ?_
    cases hK
    exact mD_iret C (pc := 16) rfl dL_minutes_16 rfl rfl
theorem dL_undo_0 : decode cL_undo 0 = .ok (.aload_n 2, 1) := by decide +kernel
theorem dL_undo_1 : decode cL_undo 1 = .ok (.iconst 0, 1) := by decide +kernel
theorem dL_undo_2 : decode cL_undo 2 = .ok (.aload_n 0, 1) := by decide +kernel
theorem dL_undo_3 : decode cL_undo 3 = .ok (.iload_n 1, 1) := by decide +kernel
theorem dL_undo_4 : decode cL_undo 4 = .ok (.invokevirtual 39, 3) := by decide +kernel
theorem dL_undo_7 : decode cL_undo 7 = .ok (.i2l, 1) := by decide +kernel
theorem dL_undo_8 : decode cL_undo 8 = .ok (.lastore, 1) := by decide +kernel
theorem dL_undo_9 : decode cL_undo 9 = .ok (.goto 6, 3) := by decide +kernel
theorem dL_undo_12 : decode cL_undo 12 = .ok (.astore_n 3, 1) := by decide +kernel
theorem dL_undo_13 : decode cL_undo 13 = .ok (.iconst 1, 1) := by decide +kernel
theorem dL_undo_14 : decode cL_undo 14 = .ok (.ireturn, 1) := by decide +kernel
theorem dL_undo_15 : decode cL_undo 15 = .ok (.iconst 0, 1) := by decide +kernel
theorem dL_undo_16 : decode cL_undo 16 = .ok (.ireturn, 1) := by decide +kernel
theorem wd_1519 : Cond.methodLink RL 39 yX11_undo ∈ lw_good := mm_wd 1519 (by decide +kernel) (by decide +kernel)
theorem wd_1520 : Cond.instanceMethod yX11_undo ∈ lw_good := mm_wd 1520 (by decide +kernel) (by decide +kernel)
theorem wd_1521 : Cond.selects RX11 yX11_undo yX11_undo ∈ lw_good := mm_wd 1521 (by decide +kernel) (by decide +kernel)
theorem wd_1522 : Cond.code yX11_undo cX11_undo 2 (some .int) ∈ lw_good := mm_wd 1522 (by decide +kernel) (by decide +kernel)
theorem tT_X11_undo : mm_T yX11_undo cX11_undo 2 (some .int) 1 := ⟨wd_1522, wd_142, by decide +kernel, by decide +kernel, by decide +kernel, by decide +kernel⟩
def F_L_undo (a0 : Option Nat) (a1 : Int32) (a2 : Option Nat) (h : MH) : Option (Int32 × MH) := cV h a0 11 (match F_X11_undo a0 a1 h with
  | none => none
  | some (.inl E, h4) => if E = "java/lang/IllegalArgumentException" then some ((1 : Int32), h4) else none
  | some (.inr v4, h4) => (sL h4 a2 (0 : Int32) (v4.toInt64)).bind fun h8 => some ((0 : Int32), h8))
set_option maxRecDepth 20000 in
set_option maxHeartbeats 4000000 in
theorem S_L_undo {d : Nat} (hd : 8 ≤ d) {a0 : Option Nat} {a1 : Int32} {a2 : Option Nat} {h : MH} {r : Int32} {hz : MH} (hK : F_L_undo a0 a1 a2 h = some (r, hz)) : mm_MW yL_undo cL_undo 4 (some .int) [(0, 9, 12, 13)] d [va_rf a0, .int a1, va_rf a2] h (.inr (some (.int r))) hz := by
  refine mD_ofV (by decide +kernel) (by simp [lg_sl, mm_crf, mm_cti, mm_ctl]) (fun V C => ?_)
  have hLV : lv_args 0 [va_rf a0, .int a1, va_rf a2] = [(0, va_rf a0), (1, .int a1), (2, va_rf a2)] := by simp [lv_args, mm_crf, mm_cti, mm_ctl]
  rw [hLV]
  unfold F_L_undo at hK
  obtain ⟨o4, hK⟩ := cV_some hK
  refine mD_aload_n C (pc := 0) 2 dL_undo_0 rfl ?_
  refine mD_iconst C (pc := 1) (v := (0 : Int32)) dL_undo_1 (by decide) ?_
  refine mD_aload_n C (pc := 2) 0 dL_undo_2 rfl ?_
  refine mD_iload_n C (pc := 3) 1 dL_undo_3 rfl ?_
  split at hK
  · cases hK
  · rename_i E h4 e4
    by_cases hE0 : E = "java/lang/IllegalArgumentException"
    · replace hK := mm_ip hE0 hK
      subst hE0
      refine mD_callVC C (pc := 4) (d1 := 7) (As := [.int a1]) (st := [.int (0 : Int32), va_rf a2]) (S_X11_undo (by omega) e4) tT_X11_undo o4 (Or.inr ⟨_, rfl, rfl⟩) wd_1519 wd_1520 wd_1521 (by omega) (by decide) rfl (by simp [mm_crf, mm_cti, mm_ctl]) rfl dL_undo_4 [] ⟨0, 9, 12, 13⟩ [] rfl (fun z hz => nomatch hz) (by decide) (by decide) wd_1158 wc_java_lang_IllegalArgumentException (ka := 3) (by decide) (Or.inl ⟨3, rfl, rfl, dL_undo_12⟩) ?_
      refine mD_iconst C (pc := 13) (v := (1 : Int32)) dL_undo_13 (by decide) ?_
      cases hK
      exact mD_iret C (pc := 14) rfl dL_undo_14 rfl rfl
    replace hK := mm_in hE0 hK
    cases hK
  · rename_i v4 h4 e4
    refine mD_callV C (pc := 4) (d1 := 7) (As := [.int a1]) (st := [.int (0 : Int32), va_rf a2]) (vk := (some (.int v4))) (S_X11_undo (by omega) e4) tT_X11_undo o4 (Or.inr ⟨_, rfl, rfl⟩) wd_1519 wd_1520 wd_1521 (by omega) (by decide) rfl (by simp [mm_crf, mm_cti, mm_ctl]) rfl dL_undo_4 ?_
    show V _ _ (.int v4 :: _) _
    refine mD_i2l C (pc := 7) dL_undo_7 ?_
    replace hK := mm_bd hK; obtain ⟨h8, e8, hK⟩ := hK
    refine mD_last C (pc := 8) dL_undo_8 e8 ?_
    refine mD_goto C (pc := 9) (tgt := 15) dL_undo_9 (by decide) ?_
    refine mD_iconst C (pc := 15) (v := (0 : Int32)) dL_undo_15 (by decide) ?_
    cases hK
    exact mD_iret C (pc := 16) rfl dL_undo_16 rfl rfl
theorem dL_judge_0 : decode cL_judge 0 = .ok (.aload_n 3, 1) := by decide +kernel
theorem dL_judge_1 : decode cL_judge 1 = .ok (.iconst 0, 1) := by decide +kernel
theorem dL_judge_2 : decode cL_judge 2 = .ok (.aload_n 0, 1) := by decide +kernel
theorem dL_judge_3 : decode cL_judge 3 = .ok (.iload_n 1, 1) := by decide +kernel
theorem dL_judge_4 : decode cL_judge 4 = .ok (.iload_n 2, 1) := by decide +kernel
theorem dL_judge_5 : decode cL_judge 5 = .ok (.invokevirtual 42, 3) := by decide +kernel
theorem dL_judge_8 : decode cL_judge 8 = .ok (.i2l, 1) := by decide +kernel
theorem dL_judge_9 : decode cL_judge 9 = .ok (.lastore, 1) := by decide +kernel
theorem dL_judge_10 : decode cL_judge 10 = .ok (.goto 15, 3) := by decide +kernel
theorem dL_judge_13 : decode cL_judge 13 = .ok (.astore 4, 2) := by decide +kernel
theorem dL_judge_15 : decode cL_judge 15 = .ok (.iconst 1, 1) := by decide +kernel
theorem dL_judge_16 : decode cL_judge 16 = .ok (.ireturn, 1) := by decide +kernel
theorem dL_judge_17 : decode cL_judge 17 = .ok (.astore 4, 2) := by decide +kernel
theorem dL_judge_19 : decode cL_judge 19 = .ok (.iconst 2, 1) := by decide +kernel
theorem dL_judge_20 : decode cL_judge 20 = .ok (.ireturn, 1) := by decide +kernel
theorem dL_judge_21 : decode cL_judge 21 = .ok (.astore 4, 2) := by decide +kernel
theorem dL_judge_23 : decode cL_judge 23 = .ok (.iconst 3, 1) := by decide +kernel
theorem dL_judge_24 : decode cL_judge 24 = .ok (.ireturn, 1) := by decide +kernel
theorem dL_judge_25 : decode cL_judge 25 = .ok (.iconst 0, 1) := by decide +kernel
theorem dL_judge_26 : decode cL_judge 26 = .ok (.ireturn, 1) := by decide +kernel
theorem wd_1537 : Cond.methodLink RL 42 yX11_judge ∈ lw_good := mm_wd 1537 (by decide +kernel) (by decide +kernel)
theorem wd_1538 : Cond.instanceMethod yX11_judge ∈ lw_good := mm_wd 1538 (by decide +kernel) (by decide +kernel)
theorem wd_1539 : Cond.selects RX11 yX11_judge yX11_judge ∈ lw_good := mm_wd 1539 (by decide +kernel) (by decide +kernel)
theorem wd_1540 : Cond.code yX11_judge cX11_judge 7 (some .int) ∈ lw_good := mm_wd 1540 (by decide +kernel) (by decide +kernel)
theorem tT_X11_judge : mm_T yX11_judge cX11_judge 7 (some .int) 2 := ⟨wd_1540, wd_142, by decide +kernel, by decide +kernel, by decide +kernel, by decide +kernel⟩
theorem wd_1536 : Cond.classLink RL 45 "java/lang/IllegalStateException" ∈ lw_good := mm_wd 1536 (by decide +kernel) (by decide +kernel)
theorem wc_java_lang_IllegalStateException : Cond.castable "java/lang/IllegalStateException" "java/lang/IllegalStateException" ∈ mm_nw := List.mem_filter.mpr ⟨by decide +kernel, by decide +kernel⟩
def F_L_judge (a0 : Option Nat) (a1 : Int32) (a2 : Int32) (a3 : Option Nat) (h : MH) : Option (Int32 × MH) := cV h a0 11 (match F_X11_judge a0 a1 a2 h with
  | none => none
  | some (.inl E, h5) => if E = "java/util/NoSuchElementException" then some ((1 : Int32), h5) else if E = "java/lang/IllegalStateException" then some ((2 : Int32), h5) else if E = "java/lang/IllegalArgumentException" then some ((3 : Int32), h5) else none
  | some (.inr v5, h5) => (sL h5 a3 (0 : Int32) (v5.toInt64)).bind fun h9 => some ((0 : Int32), h9))
set_option maxRecDepth 20000 in
set_option maxHeartbeats 4000000 in
theorem S_L_judge {d : Nat} (hd : 9 ≤ d) {a0 : Option Nat} {a1 : Int32} {a2 : Int32} {a3 : Option Nat} {h : MH} {r : Int32} {hz : MH} (hK : F_L_judge a0 a1 a2 a3 h = some (r, hz)) : mm_MW yL_judge cL_judge 5 (some .int) [(0, 10, 13, 19), (0, 10, 17, 45), (0, 10, 21, 13)] d [va_rf a0, .int a1, .int a2, va_rf a3] h (.inr (some (.int r))) hz := by
  refine mD_ofV (by decide +kernel) (by simp [lg_sl, mm_crf, mm_cti, mm_ctl]) (fun V C => ?_)
  have hLV : lv_args 0 [va_rf a0, .int a1, .int a2, va_rf a3] = [(0, va_rf a0), (1, .int a1), (2, .int a2), (3, va_rf a3)] := by simp [lv_args, mm_crf, mm_cti, mm_ctl]
  rw [hLV]
  unfold F_L_judge at hK
  obtain ⟨o5, hK⟩ := cV_some hK
  refine mD_aload_n C (pc := 0) 3 dL_judge_0 rfl ?_
  refine mD_iconst C (pc := 1) (v := (0 : Int32)) dL_judge_1 (by decide) ?_
  refine mD_aload_n C (pc := 2) 0 dL_judge_2 rfl ?_
  refine mD_iload_n C (pc := 3) 1 dL_judge_3 rfl ?_
  refine mD_iload_n C (pc := 4) 2 dL_judge_4 rfl ?_
  split at hK
  · cases hK
  · rename_i E h5 e5
    by_cases hE0 : E = "java/util/NoSuchElementException"
    · replace hK := mm_ip hE0 hK
      subst hE0
      refine mD_callVC C (pc := 5) (d1 := 8) (As := [.int a1, .int a2]) (st := [.int (0 : Int32), va_rf a3]) (S_X11_judge (by omega) e5) tT_X11_judge o5 (Or.inr ⟨_, rfl, rfl⟩) wd_1537 wd_1538 wd_1539 (by omega) (by decide) rfl (by simp [mm_crf, mm_cti, mm_ctl]) rfl dL_judge_5 [] ⟨0, 10, 13, 19⟩ [⟨0, 10, 17, 45⟩, ⟨0, 10, 21, 13⟩] rfl (fun z hz => nomatch hz) (by decide) (by decide) wd_1425 wc_java_util_NoSuchElementException (ka := 4) (by decide) (Or.inr ⟨rfl, dL_judge_13⟩) ?_
      refine mD_iconst C (pc := 15) (v := (1 : Int32)) dL_judge_15 (by decide) ?_
      cases hK
      exact mD_iret C (pc := 16) rfl dL_judge_16 rfl rfl
    replace hK := mm_in hE0 hK
    by_cases hE1 : E = "java/lang/IllegalStateException"
    · replace hK := mm_ip hE1 hK
      subst hE1
      refine mD_callVC C (pc := 5) (d1 := 8) (As := [.int a1, .int a2]) (st := [.int (0 : Int32), va_rf a3]) (S_X11_judge (by omega) e5) tT_X11_judge o5 (Or.inr ⟨_, rfl, rfl⟩) wd_1537 wd_1538 wd_1539 (by omega) (by decide) rfl (by simp [mm_crf, mm_cti, mm_ctl]) rfl dL_judge_5 [⟨0, 10, 13, 19⟩] ⟨0, 10, 17, 45⟩ [⟨0, 10, 21, 13⟩] rfl (by intro z hz; simp only [List.mem_cons, List.not_mem_nil, or_false] at hz; subst hz; exact Or.inr ⟨by decide, _, wd_1425, by decide⟩) (by decide) (by decide) wd_1536 wc_java_lang_IllegalStateException (ka := 4) (by decide) (Or.inr ⟨rfl, dL_judge_17⟩) ?_
      refine mD_iconst C (pc := 19) (v := (2 : Int32)) dL_judge_19 (by decide) ?_
      cases hK
      exact mD_iret C (pc := 20) rfl dL_judge_20 rfl rfl
    replace hK := mm_in hE1 hK
    by_cases hE2 : E = "java/lang/IllegalArgumentException"
    · replace hK := mm_ip hE2 hK
      subst hE2
      refine mD_callVC C (pc := 5) (d1 := 8) (As := [.int a1, .int a2]) (st := [.int (0 : Int32), va_rf a3]) (S_X11_judge (by omega) e5) tT_X11_judge o5 (Or.inr ⟨_, rfl, rfl⟩) wd_1537 wd_1538 wd_1539 (by omega) (by decide) rfl (by simp [mm_crf, mm_cti, mm_ctl]) rfl dL_judge_5 [⟨0, 10, 13, 19⟩, ⟨0, 10, 17, 45⟩] ⟨0, 10, 21, 13⟩ [] rfl (by intro z hz; simp only [List.mem_cons, List.not_mem_nil, or_false] at hz; rcases hz with rfl | rfl; exact Or.inr ⟨by decide, _, wd_1425, by decide⟩; exact Or.inr ⟨by decide, _, wd_1536, by decide⟩) (by decide) (by decide) wd_1158 wc_java_lang_IllegalArgumentException (ka := 4) (by decide) (Or.inr ⟨rfl, dL_judge_21⟩) ?_
      refine mD_iconst C (pc := 23) (v := (3 : Int32)) dL_judge_23 (by decide) ?_
      cases hK
      exact mD_iret C (pc := 24) rfl dL_judge_24 rfl rfl
    replace hK := mm_in hE2 hK
    cases hK
  · rename_i v5 h5 e5
    refine mD_callV C (pc := 5) (d1 := 8) (As := [.int a1, .int a2]) (st := [.int (0 : Int32), va_rf a3]) (vk := (some (.int v5))) (S_X11_judge (by omega) e5) tT_X11_judge o5 (Or.inr ⟨_, rfl, rfl⟩) wd_1537 wd_1538 wd_1539 (by omega) (by decide) rfl (by simp [mm_crf, mm_cti, mm_ctl]) rfl dL_judge_5 ?_
    show V _ _ (.int v5 :: _) _
    refine mD_i2l C (pc := 8) dL_judge_8 ?_
    replace hK := mm_bd hK; obtain ⟨h9, e9, hK⟩ := hK
    refine mD_last C (pc := 9) dL_judge_9 e9 ?_
    refine mD_goto C (pc := 10) (tgt := 25) dL_judge_10 (by decide) ?_
    refine mD_iconst C (pc := 25) (v := (0 : Int32)) dL_judge_25 (by decide) ?_
    cases hK
    exact mD_iret C (pc := 26) rfl dL_judge_26 rfl rfl
theorem dL_perform_0 : decode cL_perform 0 = .ok (.aload_n 2, 1) := by decide +kernel
theorem dL_perform_1 : decode cL_perform 1 = .ok (.iconst 0, 1) := by decide +kernel
theorem dL_perform_2 : decode cL_perform 2 = .ok (.aload_n 0, 1) := by decide +kernel
theorem dL_perform_3 : decode cL_perform 3 = .ok (.iload_n 1, 1) := by decide +kernel
theorem dL_perform_4 : decode cL_perform 4 = .ok (.invokevirtual 47, 3) := by decide +kernel
theorem dL_perform_7 : decode cL_perform 7 = .ok (.i2l, 1) := by decide +kernel
theorem dL_perform_8 : decode cL_perform 8 = .ok (.lastore, 1) := by decide +kernel
theorem dL_perform_9 : decode cL_perform 9 = .ok (.goto 9, 3) := by decide +kernel
theorem dL_perform_12 : decode cL_perform 12 = .ok (.astore_n 3, 1) := by decide +kernel
theorem dL_perform_13 : decode cL_perform 13 = .ok (.iconst 1, 1) := by decide +kernel
theorem dL_perform_14 : decode cL_perform 14 = .ok (.ireturn, 1) := by decide +kernel
theorem dL_perform_15 : decode cL_perform 15 = .ok (.astore_n 3, 1) := by decide +kernel
theorem dL_perform_16 : decode cL_perform 16 = .ok (.iconst 2, 1) := by decide +kernel
theorem dL_perform_17 : decode cL_perform 17 = .ok (.ireturn, 1) := by decide +kernel
theorem dL_perform_18 : decode cL_perform 18 = .ok (.iconst 0, 1) := by decide +kernel
theorem dL_perform_19 : decode cL_perform 19 = .ok (.ireturn, 1) := by decide +kernel
theorem wd_1599 : Cond.methodLink RL 47 yX11_perform ∈ lw_good := mm_wd 1599 (by decide +kernel) (by decide +kernel)
theorem wd_1600 : Cond.instanceMethod yX11_perform ∈ lw_good := mm_wd 1600 (by decide +kernel) (by decide +kernel)
theorem wd_1601 : Cond.selects RX11 yX11_perform yX11_perform ∈ lw_good := mm_wd 1601 (by decide +kernel) (by decide +kernel)
theorem wd_1602 : Cond.code yX11_perform cX11_perform 4 (some .int) ∈ lw_good := mm_wd 1602 (by decide +kernel) (by decide +kernel)
theorem tT_X11_perform : mm_T yX11_perform cX11_perform 4 (some .int) 1 := ⟨wd_1602, wd_142, by decide +kernel, by decide +kernel, by decide +kernel, by decide +kernel⟩
def F_L_perform (a0 : Option Nat) (a1 : Int32) (a2 : Option Nat) (h : MH) : Option (Int32 × MH) := cV h a0 11 (match F_X11_perform a0 a1 h with
  | none => none
  | some (.inl E, h4) => if E = "java/util/NoSuchElementException" then some ((1 : Int32), h4) else if E = "java/lang/IllegalStateException" then some ((2 : Int32), h4) else none
  | some (.inr v4, h4) => (sL h4 a2 (0 : Int32) (v4.toInt64)).bind fun h8 => some ((0 : Int32), h8))
set_option maxRecDepth 20000 in
set_option maxHeartbeats 4000000 in
theorem S_L_perform {d : Nat} (hd : 9 ≤ d) {a0 : Option Nat} {a1 : Int32} {a2 : Option Nat} {h : MH} {r : Int32} {hz : MH} (hK : F_L_perform a0 a1 a2 h = some (r, hz)) : mm_MW yL_perform cL_perform 4 (some .int) [(0, 9, 12, 19), (0, 9, 15, 45)] d [va_rf a0, .int a1, va_rf a2] h (.inr (some (.int r))) hz := by
  refine mD_ofV (by decide +kernel) (by simp [lg_sl, mm_crf, mm_cti, mm_ctl]) (fun V C => ?_)
  have hLV : lv_args 0 [va_rf a0, .int a1, va_rf a2] = [(0, va_rf a0), (1, .int a1), (2, va_rf a2)] := by simp [lv_args, mm_crf, mm_cti, mm_ctl]
  rw [hLV]
  unfold F_L_perform at hK
  obtain ⟨o4, hK⟩ := cV_some hK
  refine mD_aload_n C (pc := 0) 2 dL_perform_0 rfl ?_
  refine mD_iconst C (pc := 1) (v := (0 : Int32)) dL_perform_1 (by decide) ?_
  refine mD_aload_n C (pc := 2) 0 dL_perform_2 rfl ?_
  refine mD_iload_n C (pc := 3) 1 dL_perform_3 rfl ?_
  split at hK
  · cases hK
  · rename_i E h4 e4
    by_cases hE0 : E = "java/util/NoSuchElementException"
    · replace hK := mm_ip hE0 hK
      subst hE0
      refine mD_callVC C (pc := 4) (d1 := 8) (As := [.int a1]) (st := [.int (0 : Int32), va_rf a2]) (S_X11_perform (by omega) e4) tT_X11_perform o4 (Or.inr ⟨_, rfl, rfl⟩) wd_1599 wd_1600 wd_1601 (by omega) (by decide) rfl (by simp [mm_crf, mm_cti, mm_ctl]) rfl dL_perform_4 [] ⟨0, 9, 12, 19⟩ [⟨0, 9, 15, 45⟩] rfl (fun z hz => nomatch hz) (by decide) (by decide) wd_1425 wc_java_util_NoSuchElementException (ka := 3) (by decide) (Or.inl ⟨3, rfl, rfl, dL_perform_12⟩) ?_
      refine mD_iconst C (pc := 13) (v := (1 : Int32)) dL_perform_13 (by decide) ?_
      cases hK
      exact mD_iret C (pc := 14) rfl dL_perform_14 rfl rfl
    replace hK := mm_in hE0 hK
    by_cases hE1 : E = "java/lang/IllegalStateException"
    · replace hK := mm_ip hE1 hK
      subst hE1
      refine mD_callVC C (pc := 4) (d1 := 8) (As := [.int a1]) (st := [.int (0 : Int32), va_rf a2]) (S_X11_perform (by omega) e4) tT_X11_perform o4 (Or.inr ⟨_, rfl, rfl⟩) wd_1599 wd_1600 wd_1601 (by omega) (by decide) rfl (by simp [mm_crf, mm_cti, mm_ctl]) rfl dL_perform_4 [⟨0, 9, 12, 19⟩] ⟨0, 9, 15, 45⟩ [] rfl (by intro z hz; simp only [List.mem_cons, List.not_mem_nil, or_false] at hz; subst hz; exact Or.inr ⟨by decide, _, wd_1425, by decide⟩) (by decide) (by decide) wd_1536 wc_java_lang_IllegalStateException (ka := 3) (by decide) (Or.inl ⟨3, rfl, rfl, dL_perform_15⟩) ?_
      refine mD_iconst C (pc := 16) (v := (2 : Int32)) dL_perform_16 (by decide) ?_
      cases hK
      exact mD_iret C (pc := 17) rfl dL_perform_17 rfl rfl
    replace hK := mm_in hE1 hK
    cases hK
  · rename_i v4 h4 e4
    refine mD_callV C (pc := 4) (d1 := 8) (As := [.int a1]) (st := [.int (0 : Int32), va_rf a2]) (vk := (some (.int v4))) (S_X11_perform (by omega) e4) tT_X11_perform o4 (Or.inr ⟨_, rfl, rfl⟩) wd_1599 wd_1600 wd_1601 (by omega) (by decide) rfl (by simp [mm_crf, mm_cti, mm_ctl]) rfl dL_perform_4 ?_
    show V _ _ (.int v4 :: _) _
    refine mD_i2l C (pc := 7) dL_perform_7 ?_
    replace hK := mm_bd hK; obtain ⟨h8, e8, hK⟩ := hK
    refine mD_last C (pc := 8) dL_perform_8 e8 ?_
    refine mD_goto C (pc := 9) (tgt := 18) dL_perform_9 (by decide) ?_
    refine mD_iconst C (pc := 18) (v := (0 : Int32)) dL_perform_18 (by decide) ?_
    cases hK
    exact mD_iret C (pc := 19) rfl dL_perform_19 rfl rfl
theorem dL_spring_0 : decode cL_spring 0 = .ok (.aload_n 3, 1) := by decide +kernel
theorem dL_spring_1 : decode cL_spring 1 = .ok (.iconst 0, 1) := by decide +kernel
theorem dL_spring_2 : decode cL_spring 2 = .ok (.aload_n 0, 1) := by decide +kernel
theorem dL_spring_3 : decode cL_spring 3 = .ok (.iload_n 1, 1) := by decide +kernel
theorem dL_spring_4 : decode cL_spring 4 = .ok (.iload_n 2, 1) := by decide +kernel
theorem dL_spring_5 : decode cL_spring 5 = .ok (.invokevirtual 50, 3) := by decide +kernel
theorem dL_spring_8 : decode cL_spring 8 = .ok (.i2l, 1) := by decide +kernel
theorem dL_spring_9 : decode cL_spring 9 = .ok (.lastore, 1) := by decide +kernel
theorem dL_spring_10 : decode cL_spring 10 = .ok (.goto 7, 3) := by decide +kernel
theorem dL_spring_13 : decode cL_spring 13 = .ok (.astore 4, 2) := by decide +kernel
theorem dL_spring_15 : decode cL_spring 15 = .ok (.iconst 1, 1) := by decide +kernel
theorem dL_spring_16 : decode cL_spring 16 = .ok (.ireturn, 1) := by decide +kernel
theorem dL_spring_17 : decode cL_spring 17 = .ok (.iconst 0, 1) := by decide +kernel
theorem dL_spring_18 : decode cL_spring 18 = .ok (.ireturn, 1) := by decide +kernel
theorem wd_1610 : Cond.methodLink RL 50 yX11_spring ∈ lw_good := mm_wd 1610 (by decide +kernel) (by decide +kernel)
theorem wd_1611 : Cond.instanceMethod yX11_spring ∈ lw_good := mm_wd 1611 (by decide +kernel) (by decide +kernel)
theorem wd_1612 : Cond.selects RX11 yX11_spring yX11_spring ∈ lw_good := mm_wd 1612 (by decide +kernel) (by decide +kernel)
theorem wd_1613 : Cond.code yX11_spring cX11_spring 9 (some .int) ∈ lw_good := mm_wd 1613 (by decide +kernel) (by decide +kernel)
theorem tT_X11_spring : mm_T yX11_spring cX11_spring 9 (some .int) 2 := ⟨wd_1613, wd_142, by decide +kernel, by decide +kernel, by decide +kernel, by decide +kernel⟩
def F_L_spring (a0 : Option Nat) (a1 : Int32) (a2 : Int32) (a3 : Option Nat) (h : MH) : Option (Int32 × MH) := cV h a0 11 (match F_X11_spring a0 a1 a2 h with
  | none => none
  | some (.inl E, h5) => if E = "java/lang/IllegalArgumentException" then some ((1 : Int32), h5) else none
  | some (.inr v5, h5) => (sL h5 a3 (0 : Int32) (v5.toInt64)).bind fun h9 => some ((0 : Int32), h9))
set_option maxRecDepth 20000 in
set_option maxHeartbeats 4000000 in
theorem S_L_spring {d : Nat} (hd : 9 ≤ d) {a0 : Option Nat} {a1 : Int32} {a2 : Int32} {a3 : Option Nat} {h : MH} {r : Int32} {hz : MH} (hK : F_L_spring a0 a1 a2 a3 h = some (r, hz)) : mm_MW yL_spring cL_spring 5 (some .int) [(0, 10, 13, 13)] d [va_rf a0, .int a1, .int a2, va_rf a3] h (.inr (some (.int r))) hz := by
  refine mD_ofV (by decide +kernel) (by simp [lg_sl, mm_crf, mm_cti, mm_ctl]) (fun V C => ?_)
  have hLV : lv_args 0 [va_rf a0, .int a1, .int a2, va_rf a3] = [(0, va_rf a0), (1, .int a1), (2, .int a2), (3, va_rf a3)] := by simp [lv_args, mm_crf, mm_cti, mm_ctl]
  rw [hLV]
  unfold F_L_spring at hK
  obtain ⟨o5, hK⟩ := cV_some hK
  refine mD_aload_n C (pc := 0) 3 dL_spring_0 rfl ?_
  refine mD_iconst C (pc := 1) (v := (0 : Int32)) dL_spring_1 (by decide) ?_
  refine mD_aload_n C (pc := 2) 0 dL_spring_2 rfl ?_
  refine mD_iload_n C (pc := 3) 1 dL_spring_3 rfl ?_
  refine mD_iload_n C (pc := 4) 2 dL_spring_4 rfl ?_
  split at hK
  · cases hK
  · rename_i E h5 e5
    by_cases hE0 : E = "java/lang/IllegalArgumentException"
    · replace hK := mm_ip hE0 hK
      subst hE0
      refine mD_callVC C (pc := 5) (d1 := 8) (As := [.int a1, .int a2]) (st := [.int (0 : Int32), va_rf a3]) (S_X11_spring (by omega) e5) tT_X11_spring o5 (Or.inr ⟨_, rfl, rfl⟩) wd_1610 wd_1611 wd_1612 (by omega) (by decide) rfl (by simp [mm_crf, mm_cti, mm_ctl]) rfl dL_spring_5 [] ⟨0, 10, 13, 13⟩ [] rfl (fun z hz => nomatch hz) (by decide) (by decide) wd_1158 wc_java_lang_IllegalArgumentException (ka := 4) (by decide) (Or.inr ⟨rfl, dL_spring_13⟩) ?_
      refine mD_iconst C (pc := 15) (v := (1 : Int32)) dL_spring_15 (by decide) ?_
      cases hK
      exact mD_iret C (pc := 16) rfl dL_spring_16 rfl rfl
    replace hK := mm_in hE0 hK
    cases hK
  · rename_i v5 h5 e5
    refine mD_callV C (pc := 5) (d1 := 8) (As := [.int a1, .int a2]) (st := [.int (0 : Int32), va_rf a3]) (vk := (some (.int v5))) (S_X11_spring (by omega) e5) tT_X11_spring o5 (Or.inr ⟨_, rfl, rfl⟩) wd_1610 wd_1611 wd_1612 (by omega) (by decide) rfl (by simp [mm_crf, mm_cti, mm_ctl]) rfl dL_spring_5 ?_
    show V _ _ (.int v5 :: _) _
    refine mD_i2l C (pc := 8) dL_spring_8 ?_
    replace hK := mm_bd hK; obtain ⟨h9, e9, hK⟩ := hK
    refine mD_last C (pc := 9) dL_spring_9 e9 ?_
    refine mD_goto C (pc := 10) (tgt := 17) dL_spring_10 (by decide) ?_
    refine mD_iconst C (pc := 17) (v := (0 : Int32)) dL_spring_17 (by decide) ?_
    cases hK
    exact mD_iret C (pc := 18) rfl dL_spring_18 rfl rfl
theorem dL_lost_0 : decode cL_lost 0 = .ok (.aload_n 2, 1) := by decide +kernel
theorem dL_lost_1 : decode cL_lost 1 = .ok (.iconst 0, 1) := by decide +kernel
theorem dL_lost_2 : decode cL_lost 2 = .ok (.aload_n 0, 1) := by decide +kernel
theorem dL_lost_3 : decode cL_lost 3 = .ok (.iload_n 1, 1) := by decide +kernel
theorem dL_lost_4 : decode cL_lost 4 = .ok (.invokevirtual 53, 3) := by decide +kernel
theorem dL_lost_7 : decode cL_lost 7 = .ok (.i2l, 1) := by decide +kernel
theorem dL_lost_8 : decode cL_lost 8 = .ok (.lastore, 1) := by decide +kernel
theorem dL_lost_9 : decode cL_lost 9 = .ok (.goto 6, 3) := by decide +kernel
theorem dL_lost_12 : decode cL_lost 12 = .ok (.astore_n 3, 1) := by decide +kernel
theorem dL_lost_13 : decode cL_lost 13 = .ok (.iconst 1, 1) := by decide +kernel
theorem dL_lost_14 : decode cL_lost 14 = .ok (.ireturn, 1) := by decide +kernel
theorem dL_lost_15 : decode cL_lost 15 = .ok (.iconst 0, 1) := by decide +kernel
theorem dL_lost_16 : decode cL_lost 16 = .ok (.ireturn, 1) := by decide +kernel
theorem wd_1624 : Cond.methodLink RL 53 yX11_lost ∈ lw_good := mm_wd 1624 (by decide +kernel) (by decide +kernel)
theorem wd_1625 : Cond.instanceMethod yX11_lost ∈ lw_good := mm_wd 1625 (by decide +kernel) (by decide +kernel)
theorem wd_1626 : Cond.selects RX11 yX11_lost yX11_lost ∈ lw_good := mm_wd 1626 (by decide +kernel) (by decide +kernel)
theorem wd_1627 : Cond.code yX11_lost cX11_lost 2 (some .int) ∈ lw_good := mm_wd 1627 (by decide +kernel) (by decide +kernel)
theorem tT_X11_lost : mm_T yX11_lost cX11_lost 2 (some .int) 1 := ⟨wd_1627, wd_142, by decide +kernel, by decide +kernel, by decide +kernel, by decide +kernel⟩
def F_L_lost (a0 : Option Nat) (a1 : Int32) (a2 : Option Nat) (h : MH) : Option (Int32 × MH) := cV h a0 11 (match F_X11_lost a0 a1 h with
  | none => none
  | some (.inl E, h4) => if E = "java/lang/IllegalArgumentException" then some ((1 : Int32), h4) else none
  | some (.inr v4, h4) => (sL h4 a2 (0 : Int32) (v4.toInt64)).bind fun h8 => some ((0 : Int32), h8))
set_option maxRecDepth 20000 in
set_option maxHeartbeats 4000000 in
theorem S_L_lost {d : Nat} (hd : 9 ≤ d) {a0 : Option Nat} {a1 : Int32} {a2 : Option Nat} {h : MH} {r : Int32} {hz : MH} (hK : F_L_lost a0 a1 a2 h = some (r, hz)) : mm_MW yL_lost cL_lost 4 (some .int) [(0, 9, 12, 13)] d [va_rf a0, .int a1, va_rf a2] h (.inr (some (.int r))) hz := by
  refine mD_ofV (by decide +kernel) (by simp [lg_sl, mm_crf, mm_cti, mm_ctl]) (fun V C => ?_)
  have hLV : lv_args 0 [va_rf a0, .int a1, va_rf a2] = [(0, va_rf a0), (1, .int a1), (2, va_rf a2)] := by simp [lv_args, mm_crf, mm_cti, mm_ctl]
  rw [hLV]
  unfold F_L_lost at hK
  obtain ⟨o4, hK⟩ := cV_some hK
  refine mD_aload_n C (pc := 0) 2 dL_lost_0 rfl ?_
  refine mD_iconst C (pc := 1) (v := (0 : Int32)) dL_lost_1 (by decide) ?_
  refine mD_aload_n C (pc := 2) 0 dL_lost_2 rfl ?_
  refine mD_iload_n C (pc := 3) 1 dL_lost_3 rfl ?_
  split at hK
  · cases hK
  · rename_i E h4 e4
    by_cases hE0 : E = "java/lang/IllegalArgumentException"
    · replace hK := mm_ip hE0 hK
      subst hE0
      refine mD_callVC C (pc := 4) (d1 := 8) (As := [.int a1]) (st := [.int (0 : Int32), va_rf a2]) (S_X11_lost (by omega) e4) tT_X11_lost o4 (Or.inr ⟨_, rfl, rfl⟩) wd_1624 wd_1625 wd_1626 (by omega) (by decide) rfl (by simp [mm_crf, mm_cti, mm_ctl]) rfl dL_lost_4 [] ⟨0, 9, 12, 13⟩ [] rfl (fun z hz => nomatch hz) (by decide) (by decide) wd_1158 wc_java_lang_IllegalArgumentException (ka := 3) (by decide) (Or.inl ⟨3, rfl, rfl, dL_lost_12⟩) ?_
      refine mD_iconst C (pc := 13) (v := (1 : Int32)) dL_lost_13 (by decide) ?_
      cases hK
      exact mD_iret C (pc := 14) rfl dL_lost_14 rfl rfl
    replace hK := mm_in hE0 hK
    cases hK
  · rename_i v4 h4 e4
    refine mD_callV C (pc := 4) (d1 := 8) (As := [.int a1]) (st := [.int (0 : Int32), va_rf a2]) (vk := (some (.int v4))) (S_X11_lost (by omega) e4) tT_X11_lost o4 (Or.inr ⟨_, rfl, rfl⟩) wd_1624 wd_1625 wd_1626 (by omega) (by decide) rfl (by simp [mm_crf, mm_cti, mm_ctl]) rfl dL_lost_4 ?_
    show V _ _ (.int v4 :: _) _
    refine mD_i2l C (pc := 7) dL_lost_7 ?_
    replace hK := mm_bd hK; obtain ⟨h8, e8, hK⟩ := hK
    refine mD_last C (pc := 8) dL_lost_8 e8 ?_
    refine mD_goto C (pc := 9) (tgt := 15) dL_lost_9 (by decide) ?_
    refine mD_iconst C (pc := 15) (v := (0 : Int32)) dL_lost_15 (by decide) ?_
    cases hK
    exact mD_iret C (pc := 16) rfl dL_lost_16 rfl rfl
theorem dL_together_0 : decode cL_together 0 = .ok (.aload_n 3, 1) := by decide +kernel
theorem dL_together_1 : decode cL_together 1 = .ok (.iconst 0, 1) := by decide +kernel
theorem dL_together_2 : decode cL_together 2 = .ok (.aload_n 0, 1) := by decide +kernel
theorem dL_together_3 : decode cL_together 3 = .ok (.iload_n 1, 1) := by decide +kernel
theorem dL_together_4 : decode cL_together 4 = .ok (.iload_n 2, 1) := by decide +kernel
theorem dL_together_5 : decode cL_together 5 = .ok (.invokevirtual 56, 3) := by decide +kernel
theorem dL_together_8 : decode cL_together 8 = .ok (.i2l, 1) := by decide +kernel
theorem dL_together_9 : decode cL_together 9 = .ok (.lastore, 1) := by decide +kernel
theorem dL_together_10 : decode cL_together 10 = .ok (.goto 11, 3) := by decide +kernel
theorem dL_together_13 : decode cL_together 13 = .ok (.astore 4, 2) := by decide +kernel
theorem dL_together_15 : decode cL_together 15 = .ok (.iconst 1, 1) := by decide +kernel
theorem dL_together_16 : decode cL_together 16 = .ok (.ireturn, 1) := by decide +kernel
theorem dL_together_17 : decode cL_together 17 = .ok (.astore 4, 2) := by decide +kernel
theorem dL_together_19 : decode cL_together 19 = .ok (.iconst 2, 1) := by decide +kernel
theorem dL_together_20 : decode cL_together 20 = .ok (.ireturn, 1) := by decide +kernel
theorem dL_together_21 : decode cL_together 21 = .ok (.iconst 0, 1) := by decide +kernel
theorem dL_together_22 : decode cL_together 22 = .ok (.ireturn, 1) := by decide +kernel
theorem wd_1634 : Cond.methodLink RL 56 yX11_together ∈ lw_good := mm_wd 1634 (by decide +kernel) (by decide +kernel)
theorem wd_1635 : Cond.instanceMethod yX11_together ∈ lw_good := mm_wd 1635 (by decide +kernel) (by decide +kernel)
theorem wd_1636 : Cond.selects RX11 yX11_together yX11_together ∈ lw_good := mm_wd 1636 (by decide +kernel) (by decide +kernel)
theorem wd_1637 : Cond.code yX11_together cX11_together 6 (some .int) ∈ lw_good := mm_wd 1637 (by decide +kernel) (by decide +kernel)
theorem tT_X11_together : mm_T yX11_together cX11_together 6 (some .int) 2 := ⟨wd_1637, wd_142, by decide +kernel, by decide +kernel, by decide +kernel, by decide +kernel⟩
def F_L_together (a0 : Option Nat) (a1 : Int32) (a2 : Int32) (a3 : Option Nat) (h : MH) : Option (Int32 × MH) := cV h a0 11 (match F_X11_together a0 a1 a2 h with
  | none => none
  | some (.inl E, h5) => if E = "java/util/NoSuchElementException" then some ((1 : Int32), h5) else if E = "java/lang/IllegalArgumentException" then some ((2 : Int32), h5) else none
  | some (.inr v5, h5) => (sL h5 a3 (0 : Int32) (v5.toInt64)).bind fun h9 => some ((0 : Int32), h9))
set_option maxRecDepth 20000 in
set_option maxHeartbeats 4000000 in
theorem S_L_together {d : Nat} (hd : 8 ≤ d) {a0 : Option Nat} {a1 : Int32} {a2 : Int32} {a3 : Option Nat} {h : MH} {r : Int32} {hz : MH} (hK : F_L_together a0 a1 a2 a3 h = some (r, hz)) : mm_MW yL_together cL_together 5 (some .int) [(0, 10, 13, 19), (0, 10, 17, 13)] d [va_rf a0, .int a1, .int a2, va_rf a3] h (.inr (some (.int r))) hz := by
  refine mD_ofV (by decide +kernel) (by simp [lg_sl, mm_crf, mm_cti, mm_ctl]) (fun V C => ?_)
  have hLV : lv_args 0 [va_rf a0, .int a1, .int a2, va_rf a3] = [(0, va_rf a0), (1, .int a1), (2, .int a2), (3, va_rf a3)] := by simp [lv_args, mm_crf, mm_cti, mm_ctl]
  rw [hLV]
  unfold F_L_together at hK
  obtain ⟨o5, hK⟩ := cV_some hK
  refine mD_aload_n C (pc := 0) 3 dL_together_0 rfl ?_
  refine mD_iconst C (pc := 1) (v := (0 : Int32)) dL_together_1 (by decide) ?_
  refine mD_aload_n C (pc := 2) 0 dL_together_2 rfl ?_
  refine mD_iload_n C (pc := 3) 1 dL_together_3 rfl ?_
  refine mD_iload_n C (pc := 4) 2 dL_together_4 rfl ?_
  split at hK
  · cases hK
  · rename_i E h5 e5
    by_cases hE0 : E = "java/util/NoSuchElementException"
    · replace hK := mm_ip hE0 hK
      subst hE0
      refine mD_callVC C (pc := 5) (d1 := 7) (As := [.int a1, .int a2]) (st := [.int (0 : Int32), va_rf a3]) (S_X11_together (by omega) e5) tT_X11_together o5 (Or.inr ⟨_, rfl, rfl⟩) wd_1634 wd_1635 wd_1636 (by omega) (by decide) rfl (by simp [mm_crf, mm_cti, mm_ctl]) rfl dL_together_5 [] ⟨0, 10, 13, 19⟩ [⟨0, 10, 17, 13⟩] rfl (fun z hz => nomatch hz) (by decide) (by decide) wd_1425 wc_java_util_NoSuchElementException (ka := 4) (by decide) (Or.inr ⟨rfl, dL_together_13⟩) ?_
      refine mD_iconst C (pc := 15) (v := (1 : Int32)) dL_together_15 (by decide) ?_
      cases hK
      exact mD_iret C (pc := 16) rfl dL_together_16 rfl rfl
    replace hK := mm_in hE0 hK
    by_cases hE1 : E = "java/lang/IllegalArgumentException"
    · replace hK := mm_ip hE1 hK
      subst hE1
      refine mD_callVC C (pc := 5) (d1 := 7) (As := [.int a1, .int a2]) (st := [.int (0 : Int32), va_rf a3]) (S_X11_together (by omega) e5) tT_X11_together o5 (Or.inr ⟨_, rfl, rfl⟩) wd_1634 wd_1635 wd_1636 (by omega) (by decide) rfl (by simp [mm_crf, mm_cti, mm_ctl]) rfl dL_together_5 [⟨0, 10, 13, 19⟩] ⟨0, 10, 17, 13⟩ [] rfl (by intro z hz; simp only [List.mem_cons, List.not_mem_nil, or_false] at hz; subst hz; exact Or.inr ⟨by decide, _, wd_1425, by decide⟩) (by decide) (by decide) wd_1158 wc_java_lang_IllegalArgumentException (ka := 4) (by decide) (Or.inr ⟨rfl, dL_together_17⟩) ?_
      refine mD_iconst C (pc := 19) (v := (2 : Int32)) dL_together_19 (by decide) ?_
      cases hK
      exact mD_iret C (pc := 20) rfl dL_together_20 rfl rfl
    replace hK := mm_in hE1 hK
    cases hK
  · rename_i v5 h5 e5
    refine mD_callV C (pc := 5) (d1 := 7) (As := [.int a1, .int a2]) (st := [.int (0 : Int32), va_rf a3]) (vk := (some (.int v5))) (S_X11_together (by omega) e5) tT_X11_together o5 (Or.inr ⟨_, rfl, rfl⟩) wd_1634 wd_1635 wd_1636 (by omega) (by decide) rfl (by simp [mm_crf, mm_cti, mm_ctl]) rfl dL_together_5 ?_
    show V _ _ (.int v5 :: _) _
    refine mD_i2l C (pc := 8) dL_together_8 ?_
    replace hK := mm_bd hK; obtain ⟨h9, e9, hK⟩ := hK
    refine mD_last C (pc := 9) dL_together_9 e9 ?_
    refine mD_goto C (pc := 10) (tgt := 21) dL_together_10 (by decide) ?_
    refine mD_iconst C (pc := 21) (v := (0 : Int32)) dL_together_21 (by decide) ?_
    cases hK
    exact mD_iret C (pc := 22) rfl dL_together_22 rfl rfl
theorem dL_weddings_0 : decode cL_weddings 0 = .ok (.aload_n 2, 1) := by decide +kernel
theorem dL_weddings_1 : decode cL_weddings 1 = .ok (.iconst 0, 1) := by decide +kernel
theorem dL_weddings_2 : decode cL_weddings 2 = .ok (.aload_n 0, 1) := by decide +kernel
theorem dL_weddings_3 : decode cL_weddings 3 = .ok (.iload_n 1, 1) := by decide +kernel
theorem dL_weddings_4 : decode cL_weddings 4 = .ok (.invokevirtual 59, 3) := by decide +kernel
theorem dL_weddings_7 : decode cL_weddings 7 = .ok (.i2l, 1) := by decide +kernel
theorem dL_weddings_8 : decode cL_weddings 8 = .ok (.lastore, 1) := by decide +kernel
theorem dL_weddings_9 : decode cL_weddings 9 = .ok (.goto 6, 3) := by decide +kernel
theorem dL_weddings_12 : decode cL_weddings 12 = .ok (.astore_n 3, 1) := by decide +kernel
theorem dL_weddings_13 : decode cL_weddings 13 = .ok (.iconst 1, 1) := by decide +kernel
theorem dL_weddings_14 : decode cL_weddings 14 = .ok (.ireturn, 1) := by decide +kernel
theorem dL_weddings_15 : decode cL_weddings 15 = .ok (.iconst 0, 1) := by decide +kernel
theorem dL_weddings_16 : decode cL_weddings 16 = .ok (.ireturn, 1) := by decide +kernel
theorem wd_1647 : Cond.methodLink RL 59 yX11_weddings ∈ lw_good := mm_wd 1647 (by decide +kernel) (by decide +kernel)
theorem wd_1648 : Cond.instanceMethod yX11_weddings ∈ lw_good := mm_wd 1648 (by decide +kernel) (by decide +kernel)
theorem wd_1649 : Cond.selects RX11 yX11_weddings yX11_weddings ∈ lw_good := mm_wd 1649 (by decide +kernel) (by decide +kernel)
theorem wd_1650 : Cond.code yX11_weddings cX11_weddings 2 (some .int) ∈ lw_good := mm_wd 1650 (by decide +kernel) (by decide +kernel)
theorem tT_X11_weddings : mm_T yX11_weddings cX11_weddings 2 (some .int) 1 := ⟨wd_1650, wd_142, by decide +kernel, by decide +kernel, by decide +kernel, by decide +kernel⟩
def F_L_weddings (a0 : Option Nat) (a1 : Int32) (a2 : Option Nat) (h : MH) : Option (Int32 × MH) := cV h a0 11 (match F_X11_weddings a0 a1 h with
  | none => none
  | some (.inl E, h4) => if E = "java/lang/IllegalArgumentException" then some ((1 : Int32), h4) else none
  | some (.inr v4, h4) => (sL h4 a2 (0 : Int32) (v4.toInt64)).bind fun h8 => some ((0 : Int32), h8))
set_option maxRecDepth 20000 in
set_option maxHeartbeats 4000000 in
theorem S_L_weddings {d : Nat} (hd : 9 ≤ d) {a0 : Option Nat} {a1 : Int32} {a2 : Option Nat} {h : MH} {r : Int32} {hz : MH} (hK : F_L_weddings a0 a1 a2 h = some (r, hz)) : mm_MW yL_weddings cL_weddings 4 (some .int) [(0, 9, 12, 13)] d [va_rf a0, .int a1, va_rf a2] h (.inr (some (.int r))) hz := by
  refine mD_ofV (by decide +kernel) (by simp [lg_sl, mm_crf, mm_cti, mm_ctl]) (fun V C => ?_)
  have hLV : lv_args 0 [va_rf a0, .int a1, va_rf a2] = [(0, va_rf a0), (1, .int a1), (2, va_rf a2)] := by simp [lv_args, mm_crf, mm_cti, mm_ctl]
  rw [hLV]
  unfold F_L_weddings at hK
  obtain ⟨o4, hK⟩ := cV_some hK
  refine mD_aload_n C (pc := 0) 2 dL_weddings_0 rfl ?_
  refine mD_iconst C (pc := 1) (v := (0 : Int32)) dL_weddings_1 (by decide) ?_
  refine mD_aload_n C (pc := 2) 0 dL_weddings_2 rfl ?_
  refine mD_iload_n C (pc := 3) 1 dL_weddings_3 rfl ?_
  split at hK
  · cases hK
  · rename_i E h4 e4
    by_cases hE0 : E = "java/lang/IllegalArgumentException"
    · replace hK := mm_ip hE0 hK
      subst hE0
      refine mD_callVC C (pc := 4) (d1 := 8) (As := [.int a1]) (st := [.int (0 : Int32), va_rf a2]) (S_X11_weddings (by omega) e4) tT_X11_weddings o4 (Or.inr ⟨_, rfl, rfl⟩) wd_1647 wd_1648 wd_1649 (by omega) (by decide) rfl (by simp [mm_crf, mm_cti, mm_ctl]) rfl dL_weddings_4 [] ⟨0, 9, 12, 13⟩ [] rfl (fun z hz => nomatch hz) (by decide) (by decide) wd_1158 wc_java_lang_IllegalArgumentException (ka := 3) (by decide) (Or.inl ⟨3, rfl, rfl, dL_weddings_12⟩) ?_
      refine mD_iconst C (pc := 13) (v := (1 : Int32)) dL_weddings_13 (by decide) ?_
      cases hK
      exact mD_iret C (pc := 14) rfl dL_weddings_14 rfl rfl
    replace hK := mm_in hE0 hK
    cases hK
  · rename_i v4 h4 e4
    refine mD_callV C (pc := 4) (d1 := 8) (As := [.int a1]) (st := [.int (0 : Int32), va_rf a2]) (vk := (some (.int v4))) (S_X11_weddings (by omega) e4) tT_X11_weddings o4 (Or.inr ⟨_, rfl, rfl⟩) wd_1647 wd_1648 wd_1649 (by omega) (by decide) rfl (by simp [mm_crf, mm_cti, mm_ctl]) rfl dL_weddings_4 ?_
    show V _ _ (.int v4 :: _) _
    refine mD_i2l C (pc := 7) dL_weddings_7 ?_
    replace hK := mm_bd hK; obtain ⟨h8, e8, hK⟩ := hK
    refine mD_last C (pc := 8) dL_weddings_8 e8 ?_
    refine mD_goto C (pc := 9) (tgt := 15) dL_weddings_9 (by decide) ?_
    refine mD_iconst C (pc := 15) (v := (0 : Int32)) dL_weddings_15 (by decide) ?_
    cases hK
    exact mD_iret C (pc := 16) rfl dL_weddings_16 rfl rfl
theorem dL_busiest_0 : decode cL_busiest 0 = .ok (.aload_n 2, 1) := by decide +kernel
theorem dL_busiest_1 : decode cL_busiest 1 = .ok (.iconst 0, 1) := by decide +kernel
theorem dL_busiest_2 : decode cL_busiest 2 = .ok (.aload_n 0, 1) := by decide +kernel
theorem dL_busiest_3 : decode cL_busiest 3 = .ok (.iload_n 1, 1) := by decide +kernel
theorem dL_busiest_4 : decode cL_busiest 4 = .ok (.invokevirtual 62, 3) := by decide +kernel
theorem dL_busiest_7 : decode cL_busiest 7 = .ok (.i2l, 1) := by decide +kernel
theorem dL_busiest_8 : decode cL_busiest 8 = .ok (.lastore, 1) := by decide +kernel
theorem dL_busiest_9 : decode cL_busiest 9 = .ok (.goto 6, 3) := by decide +kernel
theorem dL_busiest_12 : decode cL_busiest 12 = .ok (.astore_n 3, 1) := by decide +kernel
theorem dL_busiest_13 : decode cL_busiest 13 = .ok (.iconst 1, 1) := by decide +kernel
theorem dL_busiest_14 : decode cL_busiest 14 = .ok (.ireturn, 1) := by decide +kernel
theorem dL_busiest_15 : decode cL_busiest 15 = .ok (.iconst 0, 1) := by decide +kernel
theorem dL_busiest_16 : decode cL_busiest 16 = .ok (.ireturn, 1) := by decide +kernel
theorem wd_1654 : Cond.methodLink RL 62 yX11_busiest ∈ lw_good := mm_wd 1654 (by decide +kernel) (by decide +kernel)
theorem wd_1655 : Cond.instanceMethod yX11_busiest ∈ lw_good := mm_wd 1655 (by decide +kernel) (by decide +kernel)
theorem wd_1656 : Cond.selects RX11 yX11_busiest yX11_busiest ∈ lw_good := mm_wd 1656 (by decide +kernel) (by decide +kernel)
theorem wd_1657 : Cond.code yX11_busiest cX11_busiest 8 (some .int) ∈ lw_good := mm_wd 1657 (by decide +kernel) (by decide +kernel)
theorem tT_X11_busiest : mm_T yX11_busiest cX11_busiest 8 (some .int) 1 := ⟨wd_1657, wd_142, by decide +kernel, by decide +kernel, by decide +kernel, by decide +kernel⟩
def F_L_busiest (a0 : Option Nat) (a1 : Int32) (a2 : Option Nat) (h : MH) : Option (Int32 × MH) := cV h a0 11 (match F_X11_busiest a0 a1 h with
  | none => none
  | some (.inl E, h4) => if E = "java/lang/IllegalArgumentException" then some ((1 : Int32), h4) else none
  | some (.inr v4, h4) => (sL h4 a2 (0 : Int32) (v4.toInt64)).bind fun h8 => some ((0 : Int32), h8))
set_option maxRecDepth 20000 in
set_option maxHeartbeats 4000000 in
theorem S_L_busiest {d : Nat} (hd : 9 ≤ d) {a0 : Option Nat} {a1 : Int32} {a2 : Option Nat} {h : MH} {r : Int32} {hz : MH} (hK : F_L_busiest a0 a1 a2 h = some (r, hz)) : mm_MW yL_busiest cL_busiest 4 (some .int) [(0, 9, 12, 13)] d [va_rf a0, .int a1, va_rf a2] h (.inr (some (.int r))) hz := by
  refine mD_ofV (by decide +kernel) (by simp [lg_sl, mm_crf, mm_cti, mm_ctl]) (fun V C => ?_)
  have hLV : lv_args 0 [va_rf a0, .int a1, va_rf a2] = [(0, va_rf a0), (1, .int a1), (2, va_rf a2)] := by simp [lv_args, mm_crf, mm_cti, mm_ctl]
  rw [hLV]
  unfold F_L_busiest at hK
  obtain ⟨o4, hK⟩ := cV_some hK
  refine mD_aload_n C (pc := 0) 2 dL_busiest_0 rfl ?_
  refine mD_iconst C (pc := 1) (v := (0 : Int32)) dL_busiest_1 (by decide) ?_
  refine mD_aload_n C (pc := 2) 0 dL_busiest_2 rfl ?_
  refine mD_iload_n C (pc := 3) 1 dL_busiest_3 rfl ?_
  split at hK
  · cases hK
  · rename_i E h4 e4
    by_cases hE0 : E = "java/lang/IllegalArgumentException"
    · replace hK := mm_ip hE0 hK
      subst hE0
      refine mD_callVC C (pc := 4) (d1 := 8) (As := [.int a1]) (st := [.int (0 : Int32), va_rf a2]) (S_X11_busiest (by omega) e4) tT_X11_busiest o4 (Or.inr ⟨_, rfl, rfl⟩) wd_1654 wd_1655 wd_1656 (by omega) (by decide) rfl (by simp [mm_crf, mm_cti, mm_ctl]) rfl dL_busiest_4 [] ⟨0, 9, 12, 13⟩ [] rfl (fun z hz => nomatch hz) (by decide) (by decide) wd_1158 wc_java_lang_IllegalArgumentException (ka := 3) (by decide) (Or.inl ⟨3, rfl, rfl, dL_busiest_12⟩) ?_
      refine mD_iconst C (pc := 13) (v := (1 : Int32)) dL_busiest_13 (by decide) ?_
      cases hK
      exact mD_iret C (pc := 14) rfl dL_busiest_14 rfl rfl
    replace hK := mm_in hE0 hK
    cases hK
  · rename_i v4 h4 e4
    refine mD_callV C (pc := 4) (d1 := 8) (As := [.int a1]) (st := [.int (0 : Int32), va_rf a2]) (vk := (some (.int v4))) (S_X11_busiest (by omega) e4) tT_X11_busiest o4 (Or.inr ⟨_, rfl, rfl⟩) wd_1654 wd_1655 wd_1656 (by omega) (by decide) rfl (by simp [mm_crf, mm_cti, mm_ctl]) rfl dL_busiest_4 ?_
    show V _ _ (.int v4 :: _) _
    refine mD_i2l C (pc := 7) dL_busiest_7 ?_
    replace hK := mm_bd hK; obtain ⟨h8, e8, hK⟩ := hK
    refine mD_last C (pc := 8) dL_busiest_8 e8 ?_
    refine mD_goto C (pc := 9) (tgt := 15) dL_busiest_9 (by decide) ?_
    refine mD_iconst C (pc := 15) (v := (0 : Int32)) dL_busiest_15 (by decide) ?_
    cases hK
    exact mD_iret C (pc := 16) rfl dL_busiest_16 rfl rfl
theorem dL_hog_0 : decode cL_hog 0 = .ok (.aload_n 2, 1) := by decide +kernel
theorem dL_hog_1 : decode cL_hog 1 = .ok (.iconst 0, 1) := by decide +kernel
theorem dL_hog_2 : decode cL_hog 2 = .ok (.aload_n 0, 1) := by decide +kernel
theorem dL_hog_3 : decode cL_hog 3 = .ok (.iload_n 1, 1) := by decide +kernel
theorem dL_hog_4 : decode cL_hog 4 = .ok (.invokevirtual 65, 3) := by decide +kernel
theorem dL_hog_7 : decode cL_hog 7 = .ok (.i2l, 1) := by decide +kernel
theorem dL_hog_8 : decode cL_hog 8 = .ok (.lastore, 1) := by decide +kernel
theorem dL_hog_9 : decode cL_hog 9 = .ok (.goto 6, 3) := by decide +kernel
theorem dL_hog_12 : decode cL_hog 12 = .ok (.astore_n 3, 1) := by decide +kernel
theorem dL_hog_13 : decode cL_hog 13 = .ok (.iconst 1, 1) := by decide +kernel
theorem dL_hog_14 : decode cL_hog 14 = .ok (.ireturn, 1) := by decide +kernel
theorem dL_hog_15 : decode cL_hog 15 = .ok (.iconst 0, 1) := by decide +kernel
theorem dL_hog_16 : decode cL_hog 16 = .ok (.ireturn, 1) := by decide +kernel
theorem wd_1671 : Cond.methodLink RL 65 yX11_hog ∈ lw_good := mm_wd 1671 (by decide +kernel) (by decide +kernel)
theorem wd_1672 : Cond.instanceMethod yX11_hog ∈ lw_good := mm_wd 1672 (by decide +kernel) (by decide +kernel)
theorem wd_1673 : Cond.selects RX11 yX11_hog yX11_hog ∈ lw_good := mm_wd 1673 (by decide +kernel) (by decide +kernel)
theorem wd_1674 : Cond.code yX11_hog cX11_hog 9 (some .int) ∈ lw_good := mm_wd 1674 (by decide +kernel) (by decide +kernel)
theorem tT_X11_hog : mm_T yX11_hog cX11_hog 9 (some .int) 1 := ⟨wd_1674, wd_142, by decide +kernel, by decide +kernel, by decide +kernel, by decide +kernel⟩
def F_L_hog (a0 : Option Nat) (a1 : Int32) (a2 : Option Nat) (h : MH) : Option (Int32 × MH) := cV h a0 11 (match F_X11_hog a0 a1 h with
  | none => none
  | some (.inl E, h4) => if E = "java/lang/IllegalArgumentException" then some ((1 : Int32), h4) else none
  | some (.inr v4, h4) => (sL h4 a2 (0 : Int32) (v4.toInt64)).bind fun h8 => some ((0 : Int32), h8))
set_option maxRecDepth 20000 in
set_option maxHeartbeats 4000000 in
theorem S_L_hog {d : Nat} (hd : 9 ≤ d) {a0 : Option Nat} {a1 : Int32} {a2 : Option Nat} {h : MH} {r : Int32} {hz : MH} (hK : F_L_hog a0 a1 a2 h = some (r, hz)) : mm_MW yL_hog cL_hog 4 (some .int) [(0, 9, 12, 13)] d [va_rf a0, .int a1, va_rf a2] h (.inr (some (.int r))) hz := by
  refine mD_ofV (by decide +kernel) (by simp [lg_sl, mm_crf, mm_cti, mm_ctl]) (fun V C => ?_)
  have hLV : lv_args 0 [va_rf a0, .int a1, va_rf a2] = [(0, va_rf a0), (1, .int a1), (2, va_rf a2)] := by simp [lv_args, mm_crf, mm_cti, mm_ctl]
  rw [hLV]
  unfold F_L_hog at hK
  obtain ⟨o4, hK⟩ := cV_some hK
  refine mD_aload_n C (pc := 0) 2 dL_hog_0 rfl ?_
  refine mD_iconst C (pc := 1) (v := (0 : Int32)) dL_hog_1 (by decide) ?_
  refine mD_aload_n C (pc := 2) 0 dL_hog_2 rfl ?_
  refine mD_iload_n C (pc := 3) 1 dL_hog_3 rfl ?_
  split at hK
  · cases hK
  · rename_i E h4 e4
    by_cases hE0 : E = "java/lang/IllegalArgumentException"
    · replace hK := mm_ip hE0 hK
      subst hE0
      refine mD_callVC C (pc := 4) (d1 := 8) (As := [.int a1]) (st := [.int (0 : Int32), va_rf a2]) (S_X11_hog (by omega) e4) tT_X11_hog o4 (Or.inr ⟨_, rfl, rfl⟩) wd_1671 wd_1672 wd_1673 (by omega) (by decide) rfl (by simp [mm_crf, mm_cti, mm_ctl]) rfl dL_hog_4 [] ⟨0, 9, 12, 13⟩ [] rfl (fun z hz => nomatch hz) (by decide) (by decide) wd_1158 wc_java_lang_IllegalArgumentException (ka := 3) (by decide) (Or.inl ⟨3, rfl, rfl, dL_hog_12⟩) ?_
      refine mD_iconst C (pc := 13) (v := (1 : Int32)) dL_hog_13 (by decide) ?_
      cases hK
      exact mD_iret C (pc := 14) rfl dL_hog_14 rfl rfl
    replace hK := mm_in hE0 hK
    cases hK
  · rename_i v4 h4 e4
    refine mD_callV C (pc := 4) (d1 := 8) (As := [.int a1]) (st := [.int (0 : Int32), va_rf a2]) (vk := (some (.int v4))) (S_X11_hog (by omega) e4) tT_X11_hog o4 (Or.inr ⟨_, rfl, rfl⟩) wd_1671 wd_1672 wd_1673 (by omega) (by decide) rfl (by simp [mm_crf, mm_cti, mm_ctl]) rfl dL_hog_4 ?_
    show V _ _ (.int v4 :: _) _
    refine mD_i2l C (pc := 7) dL_hog_7 ?_
    replace hK := mm_bd hK; obtain ⟨h8, e8, hK⟩ := hK
    refine mD_last C (pc := 8) dL_hog_8 e8 ?_
    refine mD_goto C (pc := 9) (tgt := 15) dL_hog_9 (by decide) ?_
    refine mD_iconst C (pc := 15) (v := (0 : Int32)) dL_hog_15 (by decide) ?_
    cases hK
    exact mD_iret C (pc := 16) rfl dL_hog_16 rfl rfl
theorem dL_best_0 : decode cL_best 0 = .ok (.aload_n 2, 1) := by decide +kernel
theorem dL_best_1 : decode cL_best 1 = .ok (.iconst 0, 1) := by decide +kernel
theorem dL_best_2 : decode cL_best 2 = .ok (.aload_n 0, 1) := by decide +kernel
theorem dL_best_3 : decode cL_best 3 = .ok (.iload_n 1, 1) := by decide +kernel
theorem dL_best_4 : decode cL_best 4 = .ok (.invokevirtual 68, 3) := by decide +kernel
theorem dL_best_7 : decode cL_best 7 = .ok (.i2l, 1) := by decide +kernel
theorem dL_best_8 : decode cL_best 8 = .ok (.lastore, 1) := by decide +kernel
theorem dL_best_9 : decode cL_best 9 = .ok (.goto 6, 3) := by decide +kernel
theorem dL_best_12 : decode cL_best 12 = .ok (.astore_n 3, 1) := by decide +kernel
theorem dL_best_13 : decode cL_best 13 = .ok (.iconst 1, 1) := by decide +kernel
theorem dL_best_14 : decode cL_best 14 = .ok (.ireturn, 1) := by decide +kernel
theorem dL_best_15 : decode cL_best 15 = .ok (.iconst 0, 1) := by decide +kernel
theorem dL_best_16 : decode cL_best 16 = .ok (.ireturn, 1) := by decide +kernel
theorem wd_1683 : Cond.methodLink RL 68 yX11_best ∈ lw_good := mm_wd 1683 (by decide +kernel) (by decide +kernel)
theorem wd_1684 : Cond.instanceMethod yX11_best ∈ lw_good := mm_wd 1684 (by decide +kernel) (by decide +kernel)
theorem wd_1685 : Cond.selects RX11 yX11_best yX11_best ∈ lw_good := mm_wd 1685 (by decide +kernel) (by decide +kernel)
theorem wd_1686 : Cond.code yX11_best cX11_best 2 (some .int) ∈ lw_good := mm_wd 1686 (by decide +kernel) (by decide +kernel)
theorem tT_X11_best : mm_T yX11_best cX11_best 2 (some .int) 1 := ⟨wd_1686, wd_142, by decide +kernel, by decide +kernel, by decide +kernel, by decide +kernel⟩
def F_L_best (a0 : Option Nat) (a1 : Int32) (a2 : Option Nat) (h : MH) : Option (Int32 × MH) := cV h a0 11 (match F_X11_best a0 a1 h with
  | none => none
  | some (.inl E, h4) => if E = "java/lang/IllegalArgumentException" then some ((1 : Int32), h4) else none
  | some (.inr v4, h4) => (sL h4 a2 (0 : Int32) (v4.toInt64)).bind fun h8 => some ((0 : Int32), h8))
set_option maxRecDepth 20000 in
set_option maxHeartbeats 4000000 in
theorem S_L_best {d : Nat} (hd : 69 ≤ d) {a0 : Option Nat} {a1 : Int32} {a2 : Option Nat} {h : MH} {r : Int32} {hz : MH} (hK : F_L_best a0 a1 a2 h = some (r, hz)) : mm_MW yL_best cL_best 4 (some .int) [(0, 9, 12, 13)] d [va_rf a0, .int a1, va_rf a2] h (.inr (some (.int r))) hz := by
  refine mD_ofV (by decide +kernel) (by simp [lg_sl, mm_crf, mm_cti, mm_ctl]) (fun V C => ?_)
  have hLV : lv_args 0 [va_rf a0, .int a1, va_rf a2] = [(0, va_rf a0), (1, .int a1), (2, va_rf a2)] := by simp [lv_args, mm_crf, mm_cti, mm_ctl]
  rw [hLV]
  unfold F_L_best at hK
  obtain ⟨o4, hK⟩ := cV_some hK
  refine mD_aload_n C (pc := 0) 2 dL_best_0 rfl ?_
  refine mD_iconst C (pc := 1) (v := (0 : Int32)) dL_best_1 (by decide) ?_
  refine mD_aload_n C (pc := 2) 0 dL_best_2 rfl ?_
  refine mD_iload_n C (pc := 3) 1 dL_best_3 rfl ?_
  split at hK
  · cases hK
  · rename_i E h4 e4
    by_cases hE0 : E = "java/lang/IllegalArgumentException"
    · replace hK := mm_ip hE0 hK
      subst hE0
      refine mD_callVC C (pc := 4) (d1 := 68) (As := [.int a1]) (st := [.int (0 : Int32), va_rf a2]) (S_X11_best (by omega) e4) tT_X11_best o4 (Or.inr ⟨_, rfl, rfl⟩) wd_1683 wd_1684 wd_1685 (by omega) (by decide) rfl (by simp [mm_crf, mm_cti, mm_ctl]) rfl dL_best_4 [] ⟨0, 9, 12, 13⟩ [] rfl (fun z hz => nomatch hz) (by decide) (by decide) wd_1158 wc_java_lang_IllegalArgumentException (ka := 3) (by decide) (Or.inl ⟨3, rfl, rfl, dL_best_12⟩) ?_
      refine mD_iconst C (pc := 13) (v := (1 : Int32)) dL_best_13 (by decide) ?_
      cases hK
      exact mD_iret C (pc := 14) rfl dL_best_14 rfl rfl
    replace hK := mm_in hE0 hK
    cases hK
  · rename_i v4 h4 e4
    refine mD_callV C (pc := 4) (d1 := 68) (As := [.int a1]) (st := [.int (0 : Int32), va_rf a2]) (vk := (some (.int v4))) (S_X11_best (by omega) e4) tT_X11_best o4 (Or.inr ⟨_, rfl, rfl⟩) wd_1683 wd_1684 wd_1685 (by omega) (by decide) rfl (by simp [mm_crf, mm_cti, mm_ctl]) rfl dL_best_4 ?_
    show V _ _ (.int v4 :: _) _
    refine mD_i2l C (pc := 7) dL_best_7 ?_
    replace hK := mm_bd hK; obtain ⟨h8, e8, hK⟩ := hK
    refine mD_last C (pc := 8) dL_best_8 e8 ?_
    refine mD_goto C (pc := 9) (tgt := 15) dL_best_9 (by decide) ?_
    refine mD_iconst C (pc := 15) (v := (0 : Int32)) dL_best_15 (by decide) ?_
    cases hK
    exact mD_iret C (pc := 16) rfl dL_best_16 rfl rfl
theorem dL_bestBy_0 : decode cL_bestBy 0 = .ok (.aload_n 2, 1) := by decide +kernel
theorem dL_bestBy_1 : decode cL_bestBy 1 = .ok (.iconst 0, 1) := by decide +kernel
theorem dL_bestBy_2 : decode cL_bestBy 2 = .ok (.aload_n 0, 1) := by decide +kernel
theorem dL_bestBy_3 : decode cL_bestBy 3 = .ok (.iload_n 1, 1) := by decide +kernel
theorem dL_bestBy_4 : decode cL_bestBy 4 = .ok (.invokevirtual 71, 3) := by decide +kernel
theorem dL_bestBy_7 : decode cL_bestBy 7 = .ok (.i2l, 1) := by decide +kernel
theorem dL_bestBy_8 : decode cL_bestBy 8 = .ok (.lastore, 1) := by decide +kernel
theorem dL_bestBy_9 : decode cL_bestBy 9 = .ok (.goto 6, 3) := by decide +kernel
theorem dL_bestBy_12 : decode cL_bestBy 12 = .ok (.astore_n 3, 1) := by decide +kernel
theorem dL_bestBy_13 : decode cL_bestBy 13 = .ok (.iconst 1, 1) := by decide +kernel
theorem dL_bestBy_14 : decode cL_bestBy 14 = .ok (.ireturn, 1) := by decide +kernel
theorem dL_bestBy_15 : decode cL_bestBy 15 = .ok (.iconst 0, 1) := by decide +kernel
theorem dL_bestBy_16 : decode cL_bestBy 16 = .ok (.ireturn, 1) := by decide +kernel
theorem wd_1739 : Cond.methodLink RL 71 yX11_bestBy ∈ lw_good := mm_wd 1739 (by decide +kernel) (by decide +kernel)
theorem wd_1740 : Cond.instanceMethod yX11_bestBy ∈ lw_good := mm_wd 1740 (by decide +kernel) (by decide +kernel)
theorem wd_1741 : Cond.selects RX11 yX11_bestBy yX11_bestBy ∈ lw_good := mm_wd 1741 (by decide +kernel) (by decide +kernel)
theorem wd_1742 : Cond.code yX11_bestBy cX11_bestBy 2 (some .int) ∈ lw_good := mm_wd 1742 (by decide +kernel) (by decide +kernel)
theorem tT_X11_bestBy : mm_T yX11_bestBy cX11_bestBy 2 (some .int) 1 := ⟨wd_1742, wd_142, by decide +kernel, by decide +kernel, by decide +kernel, by decide +kernel⟩
def F_L_bestBy (a0 : Option Nat) (a1 : Int32) (a2 : Option Nat) (h : MH) : Option (Int32 × MH) := cV h a0 11 (match F_X11_bestBy a0 a1 h with
  | none => none
  | some (.inl E, h4) => if E = "java/lang/IllegalArgumentException" then some ((1 : Int32), h4) else none
  | some (.inr v4, h4) => (sL h4 a2 (0 : Int32) (v4.toInt64)).bind fun h8 => some ((0 : Int32), h8))
set_option maxRecDepth 20000 in
set_option maxHeartbeats 4000000 in
theorem S_L_bestBy {d : Nat} (hd : 69 ≤ d) {a0 : Option Nat} {a1 : Int32} {a2 : Option Nat} {h : MH} {r : Int32} {hz : MH} (hK : F_L_bestBy a0 a1 a2 h = some (r, hz)) : mm_MW yL_bestBy cL_bestBy 4 (some .int) [(0, 9, 12, 13)] d [va_rf a0, .int a1, va_rf a2] h (.inr (some (.int r))) hz := by
  refine mD_ofV (by decide +kernel) (by simp [lg_sl, mm_crf, mm_cti, mm_ctl]) (fun V C => ?_)
  have hLV : lv_args 0 [va_rf a0, .int a1, va_rf a2] = [(0, va_rf a0), (1, .int a1), (2, va_rf a2)] := by simp [lv_args, mm_crf, mm_cti, mm_ctl]
  rw [hLV]
  unfold F_L_bestBy at hK
  obtain ⟨o4, hK⟩ := cV_some hK
  refine mD_aload_n C (pc := 0) 2 dL_bestBy_0 rfl ?_
  refine mD_iconst C (pc := 1) (v := (0 : Int32)) dL_bestBy_1 (by decide) ?_
  refine mD_aload_n C (pc := 2) 0 dL_bestBy_2 rfl ?_
  refine mD_iload_n C (pc := 3) 1 dL_bestBy_3 rfl ?_
  split at hK
  · cases hK
  · rename_i E h4 e4
    by_cases hE0 : E = "java/lang/IllegalArgumentException"
    · replace hK := mm_ip hE0 hK
      subst hE0
      refine mD_callVC C (pc := 4) (d1 := 68) (As := [.int a1]) (st := [.int (0 : Int32), va_rf a2]) (S_X11_bestBy (by omega) e4) tT_X11_bestBy o4 (Or.inr ⟨_, rfl, rfl⟩) wd_1739 wd_1740 wd_1741 (by omega) (by decide) rfl (by simp [mm_crf, mm_cti, mm_ctl]) rfl dL_bestBy_4 [] ⟨0, 9, 12, 13⟩ [] rfl (fun z hz => nomatch hz) (by decide) (by decide) wd_1158 wc_java_lang_IllegalArgumentException (ka := 3) (by decide) (Or.inl ⟨3, rfl, rfl, dL_bestBy_12⟩) ?_
      refine mD_iconst C (pc := 13) (v := (1 : Int32)) dL_bestBy_13 (by decide) ?_
      cases hK
      exact mD_iret C (pc := 14) rfl dL_bestBy_14 rfl rfl
    replace hK := mm_in hE0 hK
    cases hK
  · rename_i v4 h4 e4
    refine mD_callV C (pc := 4) (d1 := 68) (As := [.int a1]) (st := [.int (0 : Int32), va_rf a2]) (vk := (some (.int v4))) (S_X11_bestBy (by omega) e4) tT_X11_bestBy o4 (Or.inr ⟨_, rfl, rfl⟩) wd_1739 wd_1740 wd_1741 (by omega) (by decide) rfl (by simp [mm_crf, mm_cti, mm_ctl]) rfl dL_bestBy_4 ?_
    show V _ _ (.int v4 :: _) _
    refine mD_i2l C (pc := 7) dL_bestBy_7 ?_
    replace hK := mm_bd hK; obtain ⟨h8, e8, hK⟩ := hK
    refine mD_last C (pc := 8) dL_bestBy_8 e8 ?_
    refine mD_goto C (pc := 9) (tgt := 15) dL_bestBy_9 (by decide) ?_
    refine mD_iconst C (pc := 15) (v := (0 : Int32)) dL_bestBy_15 (by decide) ?_
    cases hK
    exact mD_iret C (pc := 16) rfl dL_bestBy_16 rfl rfl
theorem dL_atOnce_0 : decode cL_atOnce 0 = .ok (.aload_n 2, 1) := by decide +kernel
theorem dL_atOnce_1 : decode cL_atOnce 1 = .ok (.iconst 0, 1) := by decide +kernel
theorem dL_atOnce_2 : decode cL_atOnce 2 = .ok (.aload_n 0, 1) := by decide +kernel
theorem dL_atOnce_3 : decode cL_atOnce 3 = .ok (.iload_n 1, 1) := by decide +kernel
theorem dL_atOnce_4 : decode cL_atOnce 4 = .ok (.invokevirtual 74, 3) := by decide +kernel
theorem dL_atOnce_7 : decode cL_atOnce 7 = .ok (.ifCond .eq 7, 3) := by decide +kernel
theorem dL_atOnce_10 : decode cL_atOnce 10 = .ok (.lconst 1, 1) := by decide +kernel
theorem dL_atOnce_11 : decode cL_atOnce 11 = .ok (.goto 4, 3) := by decide +kernel
theorem dL_atOnce_14 : decode cL_atOnce 14 = .ok (.lconst 0, 1) := by decide +kernel
theorem dL_atOnce_15 : decode cL_atOnce 15 = .ok (.lastore, 1) := by decide +kernel
theorem dL_atOnce_16 : decode cL_atOnce 16 = .ok (.goto 12, 3) := by decide +kernel
theorem dL_atOnce_19 : decode cL_atOnce 19 = .ok (.astore_n 3, 1) := by decide +kernel
theorem dL_atOnce_20 : decode cL_atOnce 20 = .ok (.iconst 1, 1) := by decide +kernel
theorem dL_atOnce_21 : decode cL_atOnce 21 = .ok (.ireturn, 1) := by decide +kernel
theorem dL_atOnce_22 : decode cL_atOnce 22 = .ok (.astore_n 3, 1) := by decide +kernel
theorem dL_atOnce_23 : decode cL_atOnce 23 = .ok (.iconst 2, 1) := by decide +kernel
theorem dL_atOnce_24 : decode cL_atOnce 24 = .ok (.ireturn, 1) := by decide +kernel
theorem dL_atOnce_25 : decode cL_atOnce 25 = .ok (.astore_n 3, 1) := by decide +kernel
theorem dL_atOnce_26 : decode cL_atOnce 26 = .ok (.iconst 3, 1) := by decide +kernel
theorem dL_atOnce_27 : decode cL_atOnce 27 = .ok (.ireturn, 1) := by decide +kernel
theorem dL_atOnce_28 : decode cL_atOnce 28 = .ok (.iconst 0, 1) := by decide +kernel
theorem dL_atOnce_29 : decode cL_atOnce 29 = .ok (.ireturn, 1) := by decide +kernel
theorem wd_1751 : Cond.methodLink RL 74 yX11_atOnce ∈ lw_good := mm_wd 1751 (by decide +kernel) (by decide +kernel)
theorem wd_1752 : Cond.instanceMethod yX11_atOnce ∈ lw_good := mm_wd 1752 (by decide +kernel) (by decide +kernel)
theorem wd_1753 : Cond.selects RX11 yX11_atOnce yX11_atOnce ∈ lw_good := mm_wd 1753 (by decide +kernel) (by decide +kernel)
theorem wd_1754 : Cond.code yX11_atOnce cX11_atOnce 6 (some .boolean) ∈ lw_good := mm_wd 1754 (by decide +kernel) (by decide +kernel)
theorem tT_X11_atOnce : mm_T yX11_atOnce cX11_atOnce 6 (some .boolean) 1 := ⟨wd_1754, wd_142, by decide +kernel, by decide +kernel, by decide +kernel, by decide +kernel⟩
def F_L_atOnce (a0 : Option Nat) (a1 : Int32) (a2 : Option Nat) (h : MH) : Option (Int32 × MH) := cV h a0 11 (match F_X11_atOnce a0 a1 h with
  | none => none
  | some (.inl E, h4) => if E = "java/util/NoSuchElementException" then some ((1 : Int32), h4) else if E = "java/lang/IllegalStateException" then some ((2 : Int32), h4) else if E = "java/lang/IllegalArgumentException" then some ((3 : Int32), h4) else none
  | some (.inr v4, h4) => if v4 = 0 then ((sL h4 a2 (0 : Int32) (0 : Int64)).bind fun h15 => some ((0 : Int32), h15)) else ((sL h4 a2 (0 : Int32) (1 : Int64)).bind fun h15 => some ((0 : Int32), h15)))
set_option maxRecDepth 20000 in
set_option maxHeartbeats 4000000 in
theorem S_L_atOnce {d : Nat} (hd : 69 ≤ d) {a0 : Option Nat} {a1 : Int32} {a2 : Option Nat} {h : MH} {r : Int32} {hz : MH} (hK : F_L_atOnce a0 a1 a2 h = some (r, hz)) : mm_MW yL_atOnce cL_atOnce 4 (some .int) [(0, 16, 19, 19), (0, 16, 22, 45), (0, 16, 25, 13)] d [va_rf a0, .int a1, va_rf a2] h (.inr (some (.int r))) hz := by
  refine mD_ofV (by decide +kernel) (by simp [lg_sl, mm_crf, mm_cti, mm_ctl]) (fun V C => ?_)
  have hLV : lv_args 0 [va_rf a0, .int a1, va_rf a2] = [(0, va_rf a0), (1, .int a1), (2, va_rf a2)] := by simp [lv_args, mm_crf, mm_cti, mm_ctl]
  rw [hLV]
  unfold F_L_atOnce at hK
  obtain ⟨o4, hK⟩ := cV_some hK
  refine mD_aload_n C (pc := 0) 2 dL_atOnce_0 rfl ?_
  refine mD_iconst C (pc := 1) (v := (0 : Int32)) dL_atOnce_1 (by decide) ?_
  refine mD_aload_n C (pc := 2) 0 dL_atOnce_2 rfl ?_
  refine mD_iload_n C (pc := 3) 1 dL_atOnce_3 rfl ?_
  split at hK
  · cases hK
  · rename_i E h4 e4
    by_cases hE0 : E = "java/util/NoSuchElementException"
    · replace hK := mm_ip hE0 hK
      subst hE0
      refine mD_callVC C (pc := 4) (d1 := 68) (As := [.int a1]) (st := [.int (0 : Int32), va_rf a2]) (S_X11_atOnce (by omega) e4) tT_X11_atOnce o4 (Or.inr ⟨_, rfl, rfl⟩) wd_1751 wd_1752 wd_1753 (by omega) (by decide) rfl (by simp [mm_crf, mm_cti, mm_ctl]) rfl dL_atOnce_4 [] ⟨0, 16, 19, 19⟩ [⟨0, 16, 22, 45⟩, ⟨0, 16, 25, 13⟩] rfl (fun z hz => nomatch hz) (by decide) (by decide) wd_1425 wc_java_util_NoSuchElementException (ka := 3) (by decide) (Or.inl ⟨3, rfl, rfl, dL_atOnce_19⟩) ?_
      refine mD_iconst C (pc := 20) (v := (1 : Int32)) dL_atOnce_20 (by decide) ?_
      cases hK
      exact mD_iret C (pc := 21) rfl dL_atOnce_21 rfl rfl
    replace hK := mm_in hE0 hK
    by_cases hE1 : E = "java/lang/IllegalStateException"
    · replace hK := mm_ip hE1 hK
      subst hE1
      refine mD_callVC C (pc := 4) (d1 := 68) (As := [.int a1]) (st := [.int (0 : Int32), va_rf a2]) (S_X11_atOnce (by omega) e4) tT_X11_atOnce o4 (Or.inr ⟨_, rfl, rfl⟩) wd_1751 wd_1752 wd_1753 (by omega) (by decide) rfl (by simp [mm_crf, mm_cti, mm_ctl]) rfl dL_atOnce_4 [⟨0, 16, 19, 19⟩] ⟨0, 16, 22, 45⟩ [⟨0, 16, 25, 13⟩] rfl (by intro z hz; simp only [List.mem_cons, List.not_mem_nil, or_false] at hz; subst hz; exact Or.inr ⟨by decide, _, wd_1425, by decide⟩) (by decide) (by decide) wd_1536 wc_java_lang_IllegalStateException (ka := 3) (by decide) (Or.inl ⟨3, rfl, rfl, dL_atOnce_22⟩) ?_
      refine mD_iconst C (pc := 23) (v := (2 : Int32)) dL_atOnce_23 (by decide) ?_
      cases hK
      exact mD_iret C (pc := 24) rfl dL_atOnce_24 rfl rfl
    replace hK := mm_in hE1 hK
    by_cases hE2 : E = "java/lang/IllegalArgumentException"
    · replace hK := mm_ip hE2 hK
      subst hE2
      refine mD_callVC C (pc := 4) (d1 := 68) (As := [.int a1]) (st := [.int (0 : Int32), va_rf a2]) (S_X11_atOnce (by omega) e4) tT_X11_atOnce o4 (Or.inr ⟨_, rfl, rfl⟩) wd_1751 wd_1752 wd_1753 (by omega) (by decide) rfl (by simp [mm_crf, mm_cti, mm_ctl]) rfl dL_atOnce_4 [⟨0, 16, 19, 19⟩, ⟨0, 16, 22, 45⟩] ⟨0, 16, 25, 13⟩ [] rfl (by intro z hz; simp only [List.mem_cons, List.not_mem_nil, or_false] at hz; rcases hz with rfl | rfl; exact Or.inr ⟨by decide, _, wd_1425, by decide⟩; exact Or.inr ⟨by decide, _, wd_1536, by decide⟩) (by decide) (by decide) wd_1158 wc_java_lang_IllegalArgumentException (ka := 3) (by decide) (Or.inl ⟨3, rfl, rfl, dL_atOnce_25⟩) ?_
      refine mD_iconst C (pc := 26) (v := (3 : Int32)) dL_atOnce_26 (by decide) ?_
      cases hK
      exact mD_iret C (pc := 27) rfl dL_atOnce_27 rfl rfl
    replace hK := mm_in hE2 hK
    cases hK
  · rename_i v4 h4 e4
    refine mD_callV C (pc := 4) (d1 := 68) (As := [.int a1]) (st := [.int (0 : Int32), va_rf a2]) (vk := (some (.int v4))) (S_X11_atOnce (by omega) e4) tT_X11_atOnce o4 (Or.inr ⟨_, rfl, rfl⟩) wd_1751 wd_1752 wd_1753 (by omega) (by decide) rfl (by simp [mm_crf, mm_cti, mm_ctl]) rfl dL_atOnce_4 ?_
    show V _ _ (.int v4 :: _) _
    refine mD_if_eq C (pc := 7) (tgt := 14) dL_atOnce_7 (by decide) (fun hc => ?_) (fun hc => ?_)
    · replace hK := mm_ip hc hK
      refine mD_lconst C (pc := 14) (v := (0 : Int64)) dL_atOnce_14 (by decide) ?_
      replace hK := mm_bd hK; obtain ⟨h15, e15, hK⟩ := hK
      refine mD_last C (pc := 15) dL_atOnce_15 e15 ?_
      refine mD_goto C (pc := 16) (tgt := 28) dL_atOnce_16 (by decide) ?_
      refine mD_iconst C (pc := 28) (v := (0 : Int32)) dL_atOnce_28 (by decide) ?_
      cases hK
      exact mD_iret C (pc := 29) rfl dL_atOnce_29 rfl rfl
    · replace hK := mm_in hc hK
      refine mD_lconst C (pc := 10) (v := (1 : Int64)) dL_atOnce_10 (by decide) ?_
      refine mD_goto C (pc := 11) (tgt := 15) dL_atOnce_11 (by decide) ?_
      replace hK := mm_bd hK; obtain ⟨h15, e15, hK⟩ := hK
      refine mD_last C (pc := 15) dL_atOnce_15 e15 ?_
      refine mD_goto C (pc := 16) (tgt := 28) dL_atOnce_16 (by decide) ?_
      refine mD_iconst C (pc := 28) (v := (0 : Int32)) dL_atOnce_28 (by decide) ?_
      cases hK
      exact mD_iret C (pc := 29) rfl dL_atOnce_29 rfl rfl
theorem dL_crossed_0 : decode cL_crossed 0 = .ok (.aload_n 3, 1) := by decide +kernel
theorem dL_crossed_1 : decode cL_crossed 1 = .ok (.iconst 0, 1) := by decide +kernel
theorem dL_crossed_2 : decode cL_crossed 2 = .ok (.aload_n 0, 1) := by decide +kernel
theorem dL_crossed_3 : decode cL_crossed 3 = .ok (.iload_n 1, 1) := by decide +kernel
theorem dL_crossed_4 : decode cL_crossed 4 = .ok (.iload_n 2, 1) := by decide +kernel
theorem dL_crossed_5 : decode cL_crossed 5 = .ok (.invokevirtual 78, 3) := by decide +kernel
theorem dL_crossed_8 : decode cL_crossed 8 = .ok (.i2l, 1) := by decide +kernel
theorem dL_crossed_9 : decode cL_crossed 9 = .ok (.lastore, 1) := by decide +kernel
theorem dL_crossed_10 : decode cL_crossed 10 = .ok (.goto 15, 3) := by decide +kernel
theorem dL_crossed_13 : decode cL_crossed 13 = .ok (.astore 4, 2) := by decide +kernel
theorem dL_crossed_15 : decode cL_crossed 15 = .ok (.iconst 1, 1) := by decide +kernel
theorem dL_crossed_16 : decode cL_crossed 16 = .ok (.ireturn, 1) := by decide +kernel
theorem dL_crossed_17 : decode cL_crossed 17 = .ok (.astore 4, 2) := by decide +kernel
theorem dL_crossed_19 : decode cL_crossed 19 = .ok (.iconst 2, 1) := by decide +kernel
theorem dL_crossed_20 : decode cL_crossed 20 = .ok (.ireturn, 1) := by decide +kernel
theorem dL_crossed_21 : decode cL_crossed 21 = .ok (.astore 4, 2) := by decide +kernel
theorem dL_crossed_23 : decode cL_crossed 23 = .ok (.iconst 3, 1) := by decide +kernel
theorem dL_crossed_24 : decode cL_crossed 24 = .ok (.ireturn, 1) := by decide +kernel
theorem dL_crossed_25 : decode cL_crossed 25 = .ok (.iconst 0, 1) := by decide +kernel
theorem dL_crossed_26 : decode cL_crossed 26 = .ok (.ireturn, 1) := by decide +kernel
theorem wd_1773 : Cond.methodLink RL 78 yX11_crossed ∈ lw_good := mm_wd 1773 (by decide +kernel) (by decide +kernel)
theorem wd_1774 : Cond.instanceMethod yX11_crossed ∈ lw_good := mm_wd 1774 (by decide +kernel) (by decide +kernel)
theorem wd_1775 : Cond.selects RX11 yX11_crossed yX11_crossed ∈ lw_good := mm_wd 1775 (by decide +kernel) (by decide +kernel)
theorem wd_1776 : Cond.code yX11_crossed cX11_crossed 4 (some .int) ∈ lw_good := mm_wd 1776 (by decide +kernel) (by decide +kernel)
theorem tT_X11_crossed : mm_T yX11_crossed cX11_crossed 4 (some .int) 2 := ⟨wd_1776, wd_142, by decide +kernel, by decide +kernel, by decide +kernel, by decide +kernel⟩
def F_L_crossed (a0 : Option Nat) (a1 : Int32) (a2 : Int32) (a3 : Option Nat) (h : MH) : Option (Int32 × MH) := cV h a0 11 (match F_X11_crossed a0 a1 a2 h with
  | none => none
  | some (.inl E, h5) => if E = "java/util/NoSuchElementException" then some ((1 : Int32), h5) else if E = "java/lang/IllegalStateException" then some ((2 : Int32), h5) else if E = "java/lang/IllegalArgumentException" then some ((3 : Int32), h5) else none
  | some (.inr v5, h5) => (sL h5 a3 (0 : Int32) (v5.toInt64)).bind fun h9 => some ((0 : Int32), h9))
set_option maxRecDepth 20000 in
set_option maxHeartbeats 4000000 in
theorem S_L_crossed {d : Nat} (hd : 9 ≤ d) {a0 : Option Nat} {a1 : Int32} {a2 : Int32} {a3 : Option Nat} {h : MH} {r : Int32} {hz : MH} (hK : F_L_crossed a0 a1 a2 a3 h = some (r, hz)) : mm_MW yL_crossed cL_crossed 5 (some .int) [(0, 10, 13, 19), (0, 10, 17, 45), (0, 10, 21, 13)] d [va_rf a0, .int a1, .int a2, va_rf a3] h (.inr (some (.int r))) hz := by
  refine mD_ofV (by decide +kernel) (by simp [lg_sl, mm_crf, mm_cti, mm_ctl]) (fun V C => ?_)
  have hLV : lv_args 0 [va_rf a0, .int a1, .int a2, va_rf a3] = [(0, va_rf a0), (1, .int a1), (2, .int a2), (3, va_rf a3)] := by simp [lv_args, mm_crf, mm_cti, mm_ctl]
  rw [hLV]
  unfold F_L_crossed at hK
  obtain ⟨o5, hK⟩ := cV_some hK
  refine mD_aload_n C (pc := 0) 3 dL_crossed_0 rfl ?_
  refine mD_iconst C (pc := 1) (v := (0 : Int32)) dL_crossed_1 (by decide) ?_
  refine mD_aload_n C (pc := 2) 0 dL_crossed_2 rfl ?_
  refine mD_iload_n C (pc := 3) 1 dL_crossed_3 rfl ?_
  refine mD_iload_n C (pc := 4) 2 dL_crossed_4 rfl ?_
  split at hK
  · cases hK
  · rename_i E h5 e5
    by_cases hE0 : E = "java/util/NoSuchElementException"
    · replace hK := mm_ip hE0 hK
      subst hE0
      refine mD_callVC C (pc := 5) (d1 := 8) (As := [.int a1, .int a2]) (st := [.int (0 : Int32), va_rf a3]) (S_X11_crossed (by omega) e5) tT_X11_crossed o5 (Or.inr ⟨_, rfl, rfl⟩) wd_1773 wd_1774 wd_1775 (by omega) (by decide) rfl (by simp [mm_crf, mm_cti, mm_ctl]) rfl dL_crossed_5 [] ⟨0, 10, 13, 19⟩ [⟨0, 10, 17, 45⟩, ⟨0, 10, 21, 13⟩] rfl (fun z hz => nomatch hz) (by decide) (by decide) wd_1425 wc_java_util_NoSuchElementException (ka := 4) (by decide) (Or.inr ⟨rfl, dL_crossed_13⟩) ?_
      refine mD_iconst C (pc := 15) (v := (1 : Int32)) dL_crossed_15 (by decide) ?_
      cases hK
      exact mD_iret C (pc := 16) rfl dL_crossed_16 rfl rfl
    replace hK := mm_in hE0 hK
    by_cases hE1 : E = "java/lang/IllegalStateException"
    · replace hK := mm_ip hE1 hK
      subst hE1
      refine mD_callVC C (pc := 5) (d1 := 8) (As := [.int a1, .int a2]) (st := [.int (0 : Int32), va_rf a3]) (S_X11_crossed (by omega) e5) tT_X11_crossed o5 (Or.inr ⟨_, rfl, rfl⟩) wd_1773 wd_1774 wd_1775 (by omega) (by decide) rfl (by simp [mm_crf, mm_cti, mm_ctl]) rfl dL_crossed_5 [⟨0, 10, 13, 19⟩] ⟨0, 10, 17, 45⟩ [⟨0, 10, 21, 13⟩] rfl (by intro z hz; simp only [List.mem_cons, List.not_mem_nil, or_false] at hz; subst hz; exact Or.inr ⟨by decide, _, wd_1425, by decide⟩) (by decide) (by decide) wd_1536 wc_java_lang_IllegalStateException (ka := 4) (by decide) (Or.inr ⟨rfl, dL_crossed_17⟩) ?_
      refine mD_iconst C (pc := 19) (v := (2 : Int32)) dL_crossed_19 (by decide) ?_
      cases hK
      exact mD_iret C (pc := 20) rfl dL_crossed_20 rfl rfl
    replace hK := mm_in hE1 hK
    by_cases hE2 : E = "java/lang/IllegalArgumentException"
    · replace hK := mm_ip hE2 hK
      subst hE2
      refine mD_callVC C (pc := 5) (d1 := 8) (As := [.int a1, .int a2]) (st := [.int (0 : Int32), va_rf a3]) (S_X11_crossed (by omega) e5) tT_X11_crossed o5 (Or.inr ⟨_, rfl, rfl⟩) wd_1773 wd_1774 wd_1775 (by omega) (by decide) rfl (by simp [mm_crf, mm_cti, mm_ctl]) rfl dL_crossed_5 [⟨0, 10, 13, 19⟩, ⟨0, 10, 17, 45⟩] ⟨0, 10, 21, 13⟩ [] rfl (by intro z hz; simp only [List.mem_cons, List.not_mem_nil, or_false] at hz; rcases hz with rfl | rfl; exact Or.inr ⟨by decide, _, wd_1425, by decide⟩; exact Or.inr ⟨by decide, _, wd_1536, by decide⟩) (by decide) (by decide) wd_1158 wc_java_lang_IllegalArgumentException (ka := 4) (by decide) (Or.inr ⟨rfl, dL_crossed_21⟩) ?_
      refine mD_iconst C (pc := 23) (v := (3 : Int32)) dL_crossed_23 (by decide) ?_
      cases hK
      exact mD_iret C (pc := 24) rfl dL_crossed_24 rfl rfl
    replace hK := mm_in hE2 hK
    cases hK
  · rename_i v5 h5 e5
    refine mD_callV C (pc := 5) (d1 := 8) (As := [.int a1, .int a2]) (st := [.int (0 : Int32), va_rf a3]) (vk := (some (.int v5))) (S_X11_crossed (by omega) e5) tT_X11_crossed o5 (Or.inr ⟨_, rfl, rfl⟩) wd_1773 wd_1774 wd_1775 (by omega) (by decide) rfl (by simp [mm_crf, mm_cti, mm_ctl]) rfl dL_crossed_5 ?_
    show V _ _ (.int v5 :: _) _
    refine mD_i2l C (pc := 8) dL_crossed_8 ?_
    replace hK := mm_bd hK; obtain ⟨h9, e9, hK⟩ := hK
    refine mD_last C (pc := 9) dL_crossed_9 e9 ?_
    refine mD_goto C (pc := 10) (tgt := 25) dL_crossed_10 (by decide) ?_
    refine mD_iconst C (pc := 25) (v := (0 : Int32)) dL_crossed_25 (by decide) ?_
    cases hK
    exact mD_iret C (pc := 26) rfl dL_crossed_26 rfl rfl
theorem dL_crossings_0 : decode cL_crossings 0 = .ok (.aload_n 2, 1) := by decide +kernel
theorem dL_crossings_1 : decode cL_crossings 1 = .ok (.iconst 0, 1) := by decide +kernel
theorem dL_crossings_2 : decode cL_crossings 2 = .ok (.aload_n 0, 1) := by decide +kernel
theorem dL_crossings_3 : decode cL_crossings 3 = .ok (.iload_n 1, 1) := by decide +kernel
theorem dL_crossings_4 : decode cL_crossings 4 = .ok (.invokevirtual 81, 3) := by decide +kernel
theorem dL_crossings_7 : decode cL_crossings 7 = .ok (.i2l, 1) := by decide +kernel
theorem dL_crossings_8 : decode cL_crossings 8 = .ok (.lastore, 1) := by decide +kernel
theorem dL_crossings_9 : decode cL_crossings 9 = .ok (.goto 12, 3) := by decide +kernel
theorem dL_crossings_12 : decode cL_crossings 12 = .ok (.astore_n 3, 1) := by decide +kernel
theorem dL_crossings_13 : decode cL_crossings 13 = .ok (.iconst 1, 1) := by decide +kernel
theorem dL_crossings_14 : decode cL_crossings 14 = .ok (.ireturn, 1) := by decide +kernel
theorem dL_crossings_15 : decode cL_crossings 15 = .ok (.astore_n 3, 1) := by decide +kernel
theorem dL_crossings_16 : decode cL_crossings 16 = .ok (.iconst 2, 1) := by decide +kernel
theorem dL_crossings_17 : decode cL_crossings 17 = .ok (.ireturn, 1) := by decide +kernel
theorem dL_crossings_18 : decode cL_crossings 18 = .ok (.astore_n 3, 1) := by decide +kernel
theorem dL_crossings_19 : decode cL_crossings 19 = .ok (.iconst 3, 1) := by decide +kernel
theorem dL_crossings_20 : decode cL_crossings 20 = .ok (.ireturn, 1) := by decide +kernel
theorem dL_crossings_21 : decode cL_crossings 21 = .ok (.iconst 0, 1) := by decide +kernel
theorem dL_crossings_22 : decode cL_crossings 22 = .ok (.ireturn, 1) := by decide +kernel
theorem wd_1820 : Cond.methodLink RL 81 yX11_crossings ∈ lw_good := mm_wd 1820 (by decide +kernel) (by decide +kernel)
theorem wd_1821 : Cond.instanceMethod yX11_crossings ∈ lw_good := mm_wd 1821 (by decide +kernel) (by decide +kernel)
theorem wd_1822 : Cond.selects RX11 yX11_crossings yX11_crossings ∈ lw_good := mm_wd 1822 (by decide +kernel) (by decide +kernel)
theorem wd_1823 : Cond.code yX11_crossings cX11_crossings 3 (some .int) ∈ lw_good := mm_wd 1823 (by decide +kernel) (by decide +kernel)
theorem tT_X11_crossings : mm_T yX11_crossings cX11_crossings 3 (some .int) 1 := ⟨wd_1823, wd_142, by decide +kernel, by decide +kernel, by decide +kernel, by decide +kernel⟩
def F_L_crossings (a0 : Option Nat) (a1 : Int32) (a2 : Option Nat) (h : MH) : Option (Int32 × MH) := cV h a0 11 (match F_X11_crossings a0 a1 h with
  | none => none
  | some (.inl E, h4) => if E = "java/util/NoSuchElementException" then some ((1 : Int32), h4) else if E = "java/lang/IllegalStateException" then some ((2 : Int32), h4) else if E = "java/lang/IllegalArgumentException" then some ((3 : Int32), h4) else none
  | some (.inr v4, h4) => (sL h4 a2 (0 : Int32) (v4.toInt64)).bind fun h8 => some ((0 : Int32), h8))
set_option maxRecDepth 20000 in
set_option maxHeartbeats 4000000 in
theorem S_L_crossings {d : Nat} (hd : 9 ≤ d) {a0 : Option Nat} {a1 : Int32} {a2 : Option Nat} {h : MH} {r : Int32} {hz : MH} (hK : F_L_crossings a0 a1 a2 h = some (r, hz)) : mm_MW yL_crossings cL_crossings 4 (some .int) [(0, 9, 12, 19), (0, 9, 15, 45), (0, 9, 18, 13)] d [va_rf a0, .int a1, va_rf a2] h (.inr (some (.int r))) hz := by
  refine mD_ofV (by decide +kernel) (by simp [lg_sl, mm_crf, mm_cti, mm_ctl]) (fun V C => ?_)
  have hLV : lv_args 0 [va_rf a0, .int a1, va_rf a2] = [(0, va_rf a0), (1, .int a1), (2, va_rf a2)] := by simp [lv_args, mm_crf, mm_cti, mm_ctl]
  rw [hLV]
  unfold F_L_crossings at hK
  obtain ⟨o4, hK⟩ := cV_some hK
  refine mD_aload_n C (pc := 0) 2 dL_crossings_0 rfl ?_
  refine mD_iconst C (pc := 1) (v := (0 : Int32)) dL_crossings_1 (by decide) ?_
  refine mD_aload_n C (pc := 2) 0 dL_crossings_2 rfl ?_
  refine mD_iload_n C (pc := 3) 1 dL_crossings_3 rfl ?_
  split at hK
  · cases hK
  · rename_i E h4 e4
    by_cases hE0 : E = "java/util/NoSuchElementException"
    · replace hK := mm_ip hE0 hK
      subst hE0
      refine mD_callVC C (pc := 4) (d1 := 8) (As := [.int a1]) (st := [.int (0 : Int32), va_rf a2]) (S_X11_crossings (by omega) e4) tT_X11_crossings o4 (Or.inr ⟨_, rfl, rfl⟩) wd_1820 wd_1821 wd_1822 (by omega) (by decide) rfl (by simp [mm_crf, mm_cti, mm_ctl]) rfl dL_crossings_4 [] ⟨0, 9, 12, 19⟩ [⟨0, 9, 15, 45⟩, ⟨0, 9, 18, 13⟩] rfl (fun z hz => nomatch hz) (by decide) (by decide) wd_1425 wc_java_util_NoSuchElementException (ka := 3) (by decide) (Or.inl ⟨3, rfl, rfl, dL_crossings_12⟩) ?_
      refine mD_iconst C (pc := 13) (v := (1 : Int32)) dL_crossings_13 (by decide) ?_
      cases hK
      exact mD_iret C (pc := 14) rfl dL_crossings_14 rfl rfl
    replace hK := mm_in hE0 hK
    by_cases hE1 : E = "java/lang/IllegalStateException"
    · replace hK := mm_ip hE1 hK
      subst hE1
      refine mD_callVC C (pc := 4) (d1 := 8) (As := [.int a1]) (st := [.int (0 : Int32), va_rf a2]) (S_X11_crossings (by omega) e4) tT_X11_crossings o4 (Or.inr ⟨_, rfl, rfl⟩) wd_1820 wd_1821 wd_1822 (by omega) (by decide) rfl (by simp [mm_crf, mm_cti, mm_ctl]) rfl dL_crossings_4 [⟨0, 9, 12, 19⟩] ⟨0, 9, 15, 45⟩ [⟨0, 9, 18, 13⟩] rfl (by intro z hz; simp only [List.mem_cons, List.not_mem_nil, or_false] at hz; subst hz; exact Or.inr ⟨by decide, _, wd_1425, by decide⟩) (by decide) (by decide) wd_1536 wc_java_lang_IllegalStateException (ka := 3) (by decide) (Or.inl ⟨3, rfl, rfl, dL_crossings_15⟩) ?_
      refine mD_iconst C (pc := 16) (v := (2 : Int32)) dL_crossings_16 (by decide) ?_
      cases hK
      exact mD_iret C (pc := 17) rfl dL_crossings_17 rfl rfl
    replace hK := mm_in hE1 hK
    by_cases hE2 : E = "java/lang/IllegalArgumentException"
    · replace hK := mm_ip hE2 hK
      subst hE2
      refine mD_callVC C (pc := 4) (d1 := 8) (As := [.int a1]) (st := [.int (0 : Int32), va_rf a2]) (S_X11_crossings (by omega) e4) tT_X11_crossings o4 (Or.inr ⟨_, rfl, rfl⟩) wd_1820 wd_1821 wd_1822 (by omega) (by decide) rfl (by simp [mm_crf, mm_cti, mm_ctl]) rfl dL_crossings_4 [⟨0, 9, 12, 19⟩, ⟨0, 9, 15, 45⟩] ⟨0, 9, 18, 13⟩ [] rfl (by intro z hz; simp only [List.mem_cons, List.not_mem_nil, or_false] at hz; rcases hz with rfl | rfl; exact Or.inr ⟨by decide, _, wd_1425, by decide⟩; exact Or.inr ⟨by decide, _, wd_1536, by decide⟩) (by decide) (by decide) wd_1158 wc_java_lang_IllegalArgumentException (ka := 3) (by decide) (Or.inl ⟨3, rfl, rfl, dL_crossings_18⟩) ?_
      refine mD_iconst C (pc := 19) (v := (3 : Int32)) dL_crossings_19 (by decide) ?_
      cases hK
      exact mD_iret C (pc := 20) rfl dL_crossings_20 rfl rfl
    replace hK := mm_in hE2 hK
    cases hK
  · rename_i v4 h4 e4
    refine mD_callV C (pc := 4) (d1 := 8) (As := [.int a1]) (st := [.int (0 : Int32), va_rf a2]) (vk := (some (.int v4))) (S_X11_crossings (by omega) e4) tT_X11_crossings o4 (Or.inr ⟨_, rfl, rfl⟩) wd_1820 wd_1821 wd_1822 (by omega) (by decide) rfl (by simp [mm_crf, mm_cti, mm_ctl]) rfl dL_crossings_4 ?_
    show V _ _ (.int v4 :: _) _
    refine mD_i2l C (pc := 7) dL_crossings_7 ?_
    replace hK := mm_bd hK; obtain ⟨h8, e8, hK⟩ := hK
    refine mD_last C (pc := 8) dL_crossings_8 e8 ?_
    refine mD_goto C (pc := 9) (tgt := 21) dL_crossings_9 (by decide) ?_
    refine mD_iconst C (pc := 21) (v := (0 : Int32)) dL_crossings_21 (by decide) ?_
    cases hK
    exact mD_iret C (pc := 22) rfl dL_crossings_22 rfl rfl
theorem dL_partner_0 : decode cL_partner 0 = .ok (.aload_n 2, 1) := by decide +kernel
theorem dL_partner_1 : decode cL_partner 1 = .ok (.iconst 0, 1) := by decide +kernel
theorem dL_partner_2 : decode cL_partner 2 = .ok (.aload_n 0, 1) := by decide +kernel
theorem dL_partner_3 : decode cL_partner 3 = .ok (.iload_n 1, 1) := by decide +kernel
theorem dL_partner_4 : decode cL_partner 4 = .ok (.invokevirtual 84, 3) := by decide +kernel
theorem dL_partner_7 : decode cL_partner 7 = .ok (.i2l, 1) := by decide +kernel
theorem dL_partner_8 : decode cL_partner 8 = .ok (.lastore, 1) := by decide +kernel
theorem dL_partner_9 : decode cL_partner 9 = .ok (.goto 6, 3) := by decide +kernel
theorem dL_partner_12 : decode cL_partner 12 = .ok (.astore_n 3, 1) := by decide +kernel
theorem dL_partner_13 : decode cL_partner 13 = .ok (.iconst 1, 1) := by decide +kernel
theorem dL_partner_14 : decode cL_partner 14 = .ok (.ireturn, 1) := by decide +kernel
theorem dL_partner_15 : decode cL_partner 15 = .ok (.iconst 0, 1) := by decide +kernel
theorem dL_partner_16 : decode cL_partner 16 = .ok (.ireturn, 1) := by decide +kernel
theorem wd_1831 : Cond.methodLink RL 84 yX11_partner ∈ lw_good := mm_wd 1831 (by decide +kernel) (by decide +kernel)
theorem wd_1832 : Cond.instanceMethod yX11_partner ∈ lw_good := mm_wd 1832 (by decide +kernel) (by decide +kernel)
theorem wd_1833 : Cond.selects RX11 yX11_partner yX11_partner ∈ lw_good := mm_wd 1833 (by decide +kernel) (by decide +kernel)
theorem wd_1834 : Cond.code yX11_partner cX11_partner 2 (some .int) ∈ lw_good := mm_wd 1834 (by decide +kernel) (by decide +kernel)
theorem tT_X11_partner : mm_T yX11_partner cX11_partner 2 (some .int) 1 := ⟨wd_1834, wd_142, by decide +kernel, by decide +kernel, by decide +kernel, by decide +kernel⟩
def F_L_partner (a0 : Option Nat) (a1 : Int32) (a2 : Option Nat) (h : MH) : Option (Int32 × MH) := cV h a0 11 (match F_X11_partner a0 a1 h with
  | none => none
  | some (.inl E, h4) => if E = "java/util/NoSuchElementException" then some ((1 : Int32), h4) else none
  | some (.inr v4, h4) => (sL h4 a2 (0 : Int32) (v4.toInt64)).bind fun h8 => some ((0 : Int32), h8))
set_option maxRecDepth 20000 in
set_option maxHeartbeats 4000000 in
theorem S_L_partner {d : Nat} (hd : 72 ≤ d) {a0 : Option Nat} {a1 : Int32} {a2 : Option Nat} {h : MH} {r : Int32} {hz : MH} (hK : F_L_partner a0 a1 a2 h = some (r, hz)) : mm_MW yL_partner cL_partner 4 (some .int) [(0, 9, 12, 19)] d [va_rf a0, .int a1, va_rf a2] h (.inr (some (.int r))) hz := by
  refine mD_ofV (by decide +kernel) (by simp [lg_sl, mm_crf, mm_cti, mm_ctl]) (fun V C => ?_)
  have hLV : lv_args 0 [va_rf a0, .int a1, va_rf a2] = [(0, va_rf a0), (1, .int a1), (2, va_rf a2)] := by simp [lv_args, mm_crf, mm_cti, mm_ctl]
  rw [hLV]
  unfold F_L_partner at hK
  obtain ⟨o4, hK⟩ := cV_some hK
  refine mD_aload_n C (pc := 0) 2 dL_partner_0 rfl ?_
  refine mD_iconst C (pc := 1) (v := (0 : Int32)) dL_partner_1 (by decide) ?_
  refine mD_aload_n C (pc := 2) 0 dL_partner_2 rfl ?_
  refine mD_iload_n C (pc := 3) 1 dL_partner_3 rfl ?_
  split at hK
  · cases hK
  · rename_i E h4 e4
    by_cases hE0 : E = "java/util/NoSuchElementException"
    · replace hK := mm_ip hE0 hK
      subst hE0
      refine mD_callVC C (pc := 4) (d1 := 71) (As := [.int a1]) (st := [.int (0 : Int32), va_rf a2]) (S_X11_partner (by omega) e4) tT_X11_partner o4 (Or.inr ⟨_, rfl, rfl⟩) wd_1831 wd_1832 wd_1833 (by omega) (by decide) rfl (by simp [mm_crf, mm_cti, mm_ctl]) rfl dL_partner_4 [] ⟨0, 9, 12, 19⟩ [] rfl (fun z hz => nomatch hz) (by decide) (by decide) wd_1425 wc_java_util_NoSuchElementException (ka := 3) (by decide) (Or.inl ⟨3, rfl, rfl, dL_partner_12⟩) ?_
      refine mD_iconst C (pc := 13) (v := (1 : Int32)) dL_partner_13 (by decide) ?_
      cases hK
      exact mD_iret C (pc := 14) rfl dL_partner_14 rfl rfl
    replace hK := mm_in hE0 hK
    cases hK
  · rename_i v4 h4 e4
    refine mD_callV C (pc := 4) (d1 := 71) (As := [.int a1]) (st := [.int (0 : Int32), va_rf a2]) (vk := (some (.int v4))) (S_X11_partner (by omega) e4) tT_X11_partner o4 (Or.inr ⟨_, rfl, rfl⟩) wd_1831 wd_1832 wd_1833 (by omega) (by decide) rfl (by simp [mm_crf, mm_cti, mm_ctl]) rfl dL_partner_4 ?_
    show V _ _ (.int v4 :: _) _
    refine mD_i2l C (pc := 7) dL_partner_7 ?_
    replace hK := mm_bd hK; obtain ⟨h8, e8, hK⟩ := hK
    refine mD_last C (pc := 8) dL_partner_8 e8 ?_
    refine mD_goto C (pc := 9) (tgt := 15) dL_partner_9 (by decide) ?_
    refine mD_iconst C (pc := 15) (v := (0 : Int32)) dL_partner_15 (by decide) ?_
    cases hK
    exact mD_iret C (pc := 16) rfl dL_partner_16 rfl rfl
theorem dL_happiest_0 : decode cL_happiest 0 = .ok (.aload_n 2, 1) := by decide +kernel
theorem dL_happiest_1 : decode cL_happiest 1 = .ok (.iconst 0, 1) := by decide +kernel
theorem dL_happiest_2 : decode cL_happiest 2 = .ok (.aload_n 0, 1) := by decide +kernel
theorem dL_happiest_3 : decode cL_happiest 3 = .ok (.iload_n 1, 1) := by decide +kernel
theorem dL_happiest_4 : decode cL_happiest 4 = .ok (.invokevirtual 87, 3) := by decide +kernel
theorem dL_happiest_7 : decode cL_happiest 7 = .ok (.i2l, 1) := by decide +kernel
theorem dL_happiest_8 : decode cL_happiest 8 = .ok (.lastore, 1) := by decide +kernel
theorem dL_happiest_9 : decode cL_happiest 9 = .ok (.goto 6, 3) := by decide +kernel
theorem dL_happiest_12 : decode cL_happiest 12 = .ok (.astore_n 3, 1) := by decide +kernel
theorem dL_happiest_13 : decode cL_happiest 13 = .ok (.iconst 1, 1) := by decide +kernel
theorem dL_happiest_14 : decode cL_happiest 14 = .ok (.ireturn, 1) := by decide +kernel
theorem dL_happiest_15 : decode cL_happiest 15 = .ok (.iconst 0, 1) := by decide +kernel
theorem dL_happiest_16 : decode cL_happiest 16 = .ok (.ireturn, 1) := by decide +kernel
theorem wd_1842 : Cond.methodLink RL 87 yX11_happiest ∈ lw_good := mm_wd 1842 (by decide +kernel) (by decide +kernel)
theorem wd_1843 : Cond.instanceMethod yX11_happiest ∈ lw_good := mm_wd 1843 (by decide +kernel) (by decide +kernel)
theorem wd_1844 : Cond.selects RX11 yX11_happiest yX11_happiest ∈ lw_good := mm_wd 1844 (by decide +kernel) (by decide +kernel)
theorem wd_1845 : Cond.code yX11_happiest cX11_happiest 2 (some .int) ∈ lw_good := mm_wd 1845 (by decide +kernel) (by decide +kernel)
theorem tT_X11_happiest : mm_T yX11_happiest cX11_happiest 2 (some .int) 1 := ⟨wd_1845, wd_142, by decide +kernel, by decide +kernel, by decide +kernel, by decide +kernel⟩
def F_L_happiest (a0 : Option Nat) (a1 : Int32) (a2 : Option Nat) (h : MH) : Option (Int32 × MH) := cV h a0 11 (match F_X11_happiest a0 a1 h with
  | none => none
  | some (.inl E, h4) => if E = "java/lang/IllegalArgumentException" then some ((1 : Int32), h4) else none
  | some (.inr v4, h4) => (sL h4 a2 (0 : Int32) (v4.toInt64)).bind fun h8 => some ((0 : Int32), h8))
set_option maxRecDepth 20000 in
set_option maxHeartbeats 4000000 in
theorem S_L_happiest {d : Nat} (hd : 72 ≤ d) {a0 : Option Nat} {a1 : Int32} {a2 : Option Nat} {h : MH} {r : Int32} {hz : MH} (hK : F_L_happiest a0 a1 a2 h = some (r, hz)) : mm_MW yL_happiest cL_happiest 4 (some .int) [(0, 9, 12, 13)] d [va_rf a0, .int a1, va_rf a2] h (.inr (some (.int r))) hz := by
  refine mD_ofV (by decide +kernel) (by simp [lg_sl, mm_crf, mm_cti, mm_ctl]) (fun V C => ?_)
  have hLV : lv_args 0 [va_rf a0, .int a1, va_rf a2] = [(0, va_rf a0), (1, .int a1), (2, va_rf a2)] := by simp [lv_args, mm_crf, mm_cti, mm_ctl]
  rw [hLV]
  unfold F_L_happiest at hK
  obtain ⟨o4, hK⟩ := cV_some hK
  refine mD_aload_n C (pc := 0) 2 dL_happiest_0 rfl ?_
  refine mD_iconst C (pc := 1) (v := (0 : Int32)) dL_happiest_1 (by decide) ?_
  refine mD_aload_n C (pc := 2) 0 dL_happiest_2 rfl ?_
  refine mD_iload_n C (pc := 3) 1 dL_happiest_3 rfl ?_
  split at hK
  · cases hK
  · rename_i E h4 e4
    by_cases hE0 : E = "java/lang/IllegalArgumentException"
    · replace hK := mm_ip hE0 hK
      subst hE0
      refine mD_callVC C (pc := 4) (d1 := 71) (As := [.int a1]) (st := [.int (0 : Int32), va_rf a2]) (S_X11_happiest (by omega) e4) tT_X11_happiest o4 (Or.inr ⟨_, rfl, rfl⟩) wd_1842 wd_1843 wd_1844 (by omega) (by decide) rfl (by simp [mm_crf, mm_cti, mm_ctl]) rfl dL_happiest_4 [] ⟨0, 9, 12, 13⟩ [] rfl (fun z hz => nomatch hz) (by decide) (by decide) wd_1158 wc_java_lang_IllegalArgumentException (ka := 3) (by decide) (Or.inl ⟨3, rfl, rfl, dL_happiest_12⟩) ?_
      refine mD_iconst C (pc := 13) (v := (1 : Int32)) dL_happiest_13 (by decide) ?_
      cases hK
      exact mD_iret C (pc := 14) rfl dL_happiest_14 rfl rfl
    replace hK := mm_in hE0 hK
    cases hK
  · rename_i v4 h4 e4
    refine mD_callV C (pc := 4) (d1 := 71) (As := [.int a1]) (st := [.int (0 : Int32), va_rf a2]) (vk := (some (.int v4))) (S_X11_happiest (by omega) e4) tT_X11_happiest o4 (Or.inr ⟨_, rfl, rfl⟩) wd_1842 wd_1843 wd_1844 (by omega) (by decide) rfl (by simp [mm_crf, mm_cti, mm_ctl]) rfl dL_happiest_4 ?_
    show V _ _ (.int v4 :: _) _
    refine mD_i2l C (pc := 7) dL_happiest_7 ?_
    replace hK := mm_bd hK; obtain ⟨h8, e8, hK⟩ := hK
    refine mD_last C (pc := 8) dL_happiest_8 e8 ?_
    refine mD_goto C (pc := 9) (tgt := 15) dL_happiest_9 (by decide) ?_
    refine mD_iconst C (pc := 15) (v := (0 : Int32)) dL_happiest_15 (by decide) ?_
    cases hK
    exact mD_iret C (pc := 16) rfl dL_happiest_16 rfl rfl
theorem dL_loss_0 : decode cL_loss 0 = .ok (.aload 5, 2) := by decide +kernel
theorem dL_loss_2 : decode cL_loss 2 = .ok (.iconst 0, 1) := by decide +kernel
theorem dL_loss_3 : decode cL_loss 3 = .ok (.aload_n 0, 1) := by decide +kernel
theorem dL_loss_4 : decode cL_loss 4 = .ok (.iload_n 1, 1) := by decide +kernel
theorem dL_loss_5 : decode cL_loss 5 = .ok (.iload_n 2, 1) := by decide +kernel
theorem dL_loss_6 : decode cL_loss 6 = .ok (.iload_n 3, 1) := by decide +kernel
theorem dL_loss_7 : decode cL_loss 7 = .ok (.iload 4, 2) := by decide +kernel
theorem dL_loss_9 : decode cL_loss 9 = .ok (.invokevirtual 90, 3) := by decide +kernel
theorem dL_loss_12 : decode cL_loss 12 = .ok (.lastore, 1) := by decide +kernel
theorem dL_loss_13 : decode cL_loss 13 = .ok (.goto 7, 3) := by decide +kernel
theorem dL_loss_16 : decode cL_loss 16 = .ok (.astore 6, 2) := by decide +kernel
theorem dL_loss_18 : decode cL_loss 18 = .ok (.iconst 1, 1) := by decide +kernel
theorem dL_loss_19 : decode cL_loss 19 = .ok (.ireturn, 1) := by decide +kernel
theorem dL_loss_20 : decode cL_loss 20 = .ok (.iconst 0, 1) := by decide +kernel
theorem dL_loss_21 : decode cL_loss 21 = .ok (.ireturn, 1) := by decide +kernel
theorem wd_1857 : Cond.methodLink RL 90 yX11_loss ∈ lw_good := mm_wd 1857 (by decide +kernel) (by decide +kernel)
theorem wd_1858 : Cond.instanceMethod yX11_loss ∈ lw_good := mm_wd 1858 (by decide +kernel) (by decide +kernel)
theorem wd_1859 : Cond.selects RX11 yX11_loss yX11_loss ∈ lw_good := mm_wd 1859 (by decide +kernel) (by decide +kernel)
theorem wd_1860 : Cond.code yX11_loss cX11_loss 5 (some .long) ∈ lw_good := mm_wd 1860 (by decide +kernel) (by decide +kernel)
theorem tT_X11_loss : mm_T yX11_loss cX11_loss 5 (some .long) 4 := ⟨wd_1860, wd_142, by decide +kernel, by decide +kernel, by decide +kernel, by decide +kernel⟩
def F_L_loss (a0 : Option Nat) (a1 : Int32) (a2 : Int32) (a3 : Int32) (a4 : Int32) (a5 : Option Nat) (h : MH) : Option (Int32 × MH) := cV h a0 11 (match F_X11_loss a0 a1 a2 a3 a4 h with
  | none => none
  | some (.inl E, h9) => if E = "java/lang/IllegalArgumentException" then some ((1 : Int32), h9) else none
  | some (.inr v9, h9) => (sL h9 a5 (0 : Int32) v9).bind fun h12 => some ((0 : Int32), h12))
set_option maxRecDepth 20000 in
set_option maxHeartbeats 4000000 in
theorem S_L_loss {d : Nat} (hd : 8 ≤ d) {a0 : Option Nat} {a1 : Int32} {a2 : Int32} {a3 : Int32} {a4 : Int32} {a5 : Option Nat} {h : MH} {r : Int32} {hz : MH} (hK : F_L_loss a0 a1 a2 a3 a4 a5 h = some (r, hz)) : mm_MW yL_loss cL_loss 7 (some .int) [(0, 13, 16, 13)] d [va_rf a0, .int a1, .int a2, .int a3, .int a4, va_rf a5] h (.inr (some (.int r))) hz := by
  refine mD_ofV (by decide +kernel) (by simp [lg_sl, mm_crf, mm_cti, mm_ctl]) (fun V C => ?_)
  have hLV : lv_args 0 [va_rf a0, .int a1, .int a2, .int a3, .int a4, va_rf a5] = [(0, va_rf a0), (1, .int a1), (2, .int a2), (3, .int a3), (4, .int a4), (5, va_rf a5)] := by simp [lv_args, mm_crf, mm_cti, mm_ctl]
  rw [hLV]
  unfold F_L_loss at hK
  obtain ⟨o9, hK⟩ := cV_some hK
  refine mD_aload C (pc := 0) 5 dL_loss_0 rfl ?_
  refine mD_iconst C (pc := 2) (v := (0 : Int32)) dL_loss_2 (by decide) ?_
  refine mD_aload_n C (pc := 3) 0 dL_loss_3 rfl ?_
  refine mD_iload_n C (pc := 4) 1 dL_loss_4 rfl ?_
  refine mD_iload_n C (pc := 5) 2 dL_loss_5 rfl ?_
  refine mD_iload_n C (pc := 6) 3 dL_loss_6 rfl ?_
  refine mD_iload C (pc := 7) 4 dL_loss_7 rfl ?_
  split at hK
  · cases hK
  · rename_i E h9 e9
    by_cases hE0 : E = "java/lang/IllegalArgumentException"
    · replace hK := mm_ip hE0 hK
      subst hE0
      refine mD_callVC C (pc := 9) (d1 := 7) (As := [.int a1, .int a2, .int a3, .int a4]) (st := [.int (0 : Int32), va_rf a5]) (S_X11_loss (by omega) e9) tT_X11_loss o9 (Or.inr ⟨_, rfl, rfl⟩) wd_1857 wd_1858 wd_1859 (by omega) (by decide) rfl (by simp [mm_crf, mm_cti, mm_ctl]) rfl dL_loss_9 [] ⟨0, 13, 16, 13⟩ [] rfl (fun z hz => nomatch hz) (by decide) (by decide) wd_1158 wc_java_lang_IllegalArgumentException (ka := 6) (by decide) (Or.inr ⟨rfl, dL_loss_16⟩) ?_
      refine mD_iconst C (pc := 18) (v := (1 : Int32)) dL_loss_18 (by decide) ?_
      cases hK
      exact mD_iret C (pc := 19) rfl dL_loss_19 rfl rfl
    replace hK := mm_in hE0 hK
    cases hK
  · rename_i v9 h9 e9
    refine mD_callV C (pc := 9) (d1 := 7) (As := [.int a1, .int a2, .int a3, .int a4]) (st := [.int (0 : Int32), va_rf a5]) (vk := (some (.long v9))) (S_X11_loss (by omega) e9) tT_X11_loss o9 (Or.inr ⟨_, rfl, rfl⟩) wd_1857 wd_1858 wd_1859 (by omega) (by decide) rfl (by simp [mm_crf, mm_cti, mm_ctl]) rfl dL_loss_9 ?_
    show V _ _ (.long v9 :: _) _
    replace hK := mm_bd hK; obtain ⟨h12, e12, hK⟩ := hK
    refine mD_last C (pc := 12) dL_loss_12 e12 ?_
    refine mD_goto C (pc := 13) (tgt := 20) dL_loss_13 (by decide) ?_
    refine mD_iconst C (pc := 20) (v := (0 : Int32)) dL_loss_20 (by decide) ?_
    cases hK
    exact mD_iret C (pc := 21) rfl dL_loss_21 rfl rfl
theorem dL_fewest_0 : decode cL_fewest 0 = .ok (.aload 4, 2) := by decide +kernel
theorem dL_fewest_2 : decode cL_fewest 2 = .ok (.iconst 0, 1) := by decide +kernel
theorem dL_fewest_3 : decode cL_fewest 3 = .ok (.aload_n 0, 1) := by decide +kernel
theorem dL_fewest_4 : decode cL_fewest 4 = .ok (.iload_n 1, 1) := by decide +kernel
theorem dL_fewest_5 : decode cL_fewest 5 = .ok (.iload_n 2, 1) := by decide +kernel
theorem dL_fewest_6 : decode cL_fewest 6 = .ok (.iload_n 3, 1) := by decide +kernel
theorem dL_fewest_7 : decode cL_fewest 7 = .ok (.invokevirtual 94, 3) := by decide +kernel
theorem dL_fewest_10 : decode cL_fewest 10 = .ok (.i2l, 1) := by decide +kernel
theorem dL_fewest_11 : decode cL_fewest 11 = .ok (.lastore, 1) := by decide +kernel
theorem dL_fewest_12 : decode cL_fewest 12 = .ok (.goto 7, 3) := by decide +kernel
theorem dL_fewest_15 : decode cL_fewest 15 = .ok (.astore 5, 2) := by decide +kernel
theorem dL_fewest_17 : decode cL_fewest 17 = .ok (.iconst 1, 1) := by decide +kernel
theorem dL_fewest_18 : decode cL_fewest 18 = .ok (.ireturn, 1) := by decide +kernel
theorem dL_fewest_19 : decode cL_fewest 19 = .ok (.iconst 0, 1) := by decide +kernel
theorem dL_fewest_20 : decode cL_fewest 20 = .ok (.ireturn, 1) := by decide +kernel
theorem wd_1870 : Cond.methodLink RL 94 yX11_fewest ∈ lw_good := mm_wd 1870 (by decide +kernel) (by decide +kernel)
theorem wd_1871 : Cond.instanceMethod yX11_fewest ∈ lw_good := mm_wd 1871 (by decide +kernel) (by decide +kernel)
theorem wd_1872 : Cond.selects RX11 yX11_fewest yX11_fewest ∈ lw_good := mm_wd 1872 (by decide +kernel) (by decide +kernel)
theorem wd_1873 : Cond.code yX11_fewest cX11_fewest 5 (some .int) ∈ lw_good := mm_wd 1873 (by decide +kernel) (by decide +kernel)
theorem tT_X11_fewest : mm_T yX11_fewest cX11_fewest 5 (some .int) 3 := ⟨wd_1873, wd_142, by decide +kernel, by decide +kernel, by decide +kernel, by decide +kernel⟩
def F_L_fewest (a0 : Option Nat) (a1 : Int32) (a2 : Int32) (a3 : Int32) (a4 : Option Nat) (h : MH) : Option (Int32 × MH) := cV h a0 11 (match F_X11_fewest a0 a1 a2 a3 h with
  | none => none
  | some (.inl E, h7) => if E = "java/lang/IllegalArgumentException" then some ((1 : Int32), h7) else none
  | some (.inr v7, h7) => (sL h7 a4 (0 : Int32) (v7.toInt64)).bind fun h11 => some ((0 : Int32), h11))
set_option maxRecDepth 20000 in
set_option maxHeartbeats 4000000 in
theorem S_L_fewest {d : Nat} (hd : 8 ≤ d) {a0 : Option Nat} {a1 : Int32} {a2 : Int32} {a3 : Int32} {a4 : Option Nat} {h : MH} {r : Int32} {hz : MH} (hK : F_L_fewest a0 a1 a2 a3 a4 h = some (r, hz)) : mm_MW yL_fewest cL_fewest 6 (some .int) [(0, 12, 15, 13)] d [va_rf a0, .int a1, .int a2, .int a3, va_rf a4] h (.inr (some (.int r))) hz := by
  refine mD_ofV (by decide +kernel) (by simp [lg_sl, mm_crf, mm_cti, mm_ctl]) (fun V C => ?_)
  have hLV : lv_args 0 [va_rf a0, .int a1, .int a2, .int a3, va_rf a4] = [(0, va_rf a0), (1, .int a1), (2, .int a2), (3, .int a3), (4, va_rf a4)] := by simp [lv_args, mm_crf, mm_cti, mm_ctl]
  rw [hLV]
  unfold F_L_fewest at hK
  obtain ⟨o7, hK⟩ := cV_some hK
  refine mD_aload C (pc := 0) 4 dL_fewest_0 rfl ?_
  refine mD_iconst C (pc := 2) (v := (0 : Int32)) dL_fewest_2 (by decide) ?_
  refine mD_aload_n C (pc := 3) 0 dL_fewest_3 rfl ?_
  refine mD_iload_n C (pc := 4) 1 dL_fewest_4 rfl ?_
  refine mD_iload_n C (pc := 5) 2 dL_fewest_5 rfl ?_
  refine mD_iload_n C (pc := 6) 3 dL_fewest_6 rfl ?_
  split at hK
  · cases hK
  · rename_i E h7 e7
    by_cases hE0 : E = "java/lang/IllegalArgumentException"
    · replace hK := mm_ip hE0 hK
      subst hE0
      refine mD_callVC C (pc := 7) (d1 := 7) (As := [.int a1, .int a2, .int a3]) (st := [.int (0 : Int32), va_rf a4]) (S_X11_fewest (by omega) e7) tT_X11_fewest o7 (Or.inr ⟨_, rfl, rfl⟩) wd_1870 wd_1871 wd_1872 (by omega) (by decide) rfl (by simp [mm_crf, mm_cti, mm_ctl]) rfl dL_fewest_7 [] ⟨0, 12, 15, 13⟩ [] rfl (fun z hz => nomatch hz) (by decide) (by decide) wd_1158 wc_java_lang_IllegalArgumentException (ka := 5) (by decide) (Or.inr ⟨rfl, dL_fewest_15⟩) ?_
      refine mD_iconst C (pc := 17) (v := (1 : Int32)) dL_fewest_17 (by decide) ?_
      cases hK
      exact mD_iret C (pc := 18) rfl dL_fewest_18 rfl rfl
    replace hK := mm_in hE0 hK
    cases hK
  · rename_i v7 h7 e7
    refine mD_callV C (pc := 7) (d1 := 7) (As := [.int a1, .int a2, .int a3]) (st := [.int (0 : Int32), va_rf a4]) (vk := (some (.int v7))) (S_X11_fewest (by omega) e7) tT_X11_fewest o7 (Or.inr ⟨_, rfl, rfl⟩) wd_1870 wd_1871 wd_1872 (by omega) (by decide) rfl (by simp [mm_crf, mm_cti, mm_ctl]) rfl dL_fewest_7 ?_
    show V _ _ (.int v7 :: _) _
    refine mD_i2l C (pc := 10) dL_fewest_10 ?_
    replace hK := mm_bd hK; obtain ⟨h11, e11, hK⟩ := hK
    refine mD_last C (pc := 11) dL_fewest_11 e11 ?_
    refine mD_goto C (pc := 12) (tgt := 19) dL_fewest_12 (by decide) ?_
    refine mD_iconst C (pc := 19) (v := (0 : Int32)) dL_fewest_19 (by decide) ?_
    cases hK
    exact mD_iret C (pc := 20) rfl dL_fewest_20 rfl rfl
theorem dL_rules_0 : decode cL_rules 0 = .ok (.aload_n 2, 1) := by decide +kernel
theorem dL_rules_1 : decode cL_rules 1 = .ok (.iconst 0, 1) := by decide +kernel
theorem dL_rules_2 : decode cL_rules 2 = .ok (.aload_n 0, 1) := by decide +kernel
theorem dL_rules_3 : decode cL_rules 3 = .ok (.iload_n 1, 1) := by decide +kernel
theorem dL_rules_4 : decode cL_rules 4 = .ok (.invokevirtual 98, 3) := by decide +kernel
theorem dL_rules_7 : decode cL_rules 7 = .ok (.i2l, 1) := by decide +kernel
theorem dL_rules_8 : decode cL_rules 8 = .ok (.lastore, 1) := by decide +kernel
theorem dL_rules_9 : decode cL_rules 9 = .ok (.goto 12, 3) := by decide +kernel
theorem dL_rules_12 : decode cL_rules 12 = .ok (.astore_n 3, 1) := by decide +kernel
theorem dL_rules_13 : decode cL_rules 13 = .ok (.iconst 1, 1) := by decide +kernel
theorem dL_rules_14 : decode cL_rules 14 = .ok (.ireturn, 1) := by decide +kernel
theorem dL_rules_15 : decode cL_rules 15 = .ok (.astore_n 3, 1) := by decide +kernel
theorem dL_rules_16 : decode cL_rules 16 = .ok (.iconst 2, 1) := by decide +kernel
theorem dL_rules_17 : decode cL_rules 17 = .ok (.ireturn, 1) := by decide +kernel
theorem dL_rules_18 : decode cL_rules 18 = .ok (.astore_n 3, 1) := by decide +kernel
theorem dL_rules_19 : decode cL_rules 19 = .ok (.iconst 3, 1) := by decide +kernel
theorem dL_rules_20 : decode cL_rules 20 = .ok (.ireturn, 1) := by decide +kernel
theorem dL_rules_21 : decode cL_rules 21 = .ok (.iconst 0, 1) := by decide +kernel
theorem dL_rules_22 : decode cL_rules 22 = .ok (.ireturn, 1) := by decide +kernel
theorem wd_1877 : Cond.methodLink RL 98 yX11_rules ∈ lw_good := mm_wd 1877 (by decide +kernel) (by decide +kernel)
theorem wd_1878 : Cond.instanceMethod yX11_rules ∈ lw_good := mm_wd 1878 (by decide +kernel) (by decide +kernel)
theorem wd_1879 : Cond.selects RX11 yX11_rules yX11_rules ∈ lw_good := mm_wd 1879 (by decide +kernel) (by decide +kernel)
theorem wd_1880 : Cond.code yX11_rules cX11_rules 5 (some .int) ∈ lw_good := mm_wd 1880 (by decide +kernel) (by decide +kernel)
theorem tT_X11_rules : mm_T yX11_rules cX11_rules 5 (some .int) 1 := ⟨wd_1880, wd_142, by decide +kernel, by decide +kernel, by decide +kernel, by decide +kernel⟩
def F_L_rules (a0 : Option Nat) (a1 : Int32) (a2 : Option Nat) (h : MH) : Option (Int32 × MH) := cV h a0 11 (match F_X11_rules a0 a1 h with
  | none => none
  | some (.inl E, h4) => if E = "java/util/NoSuchElementException" then some ((1 : Int32), h4) else if E = "java/lang/IllegalStateException" then some ((2 : Int32), h4) else if E = "java/lang/IllegalArgumentException" then some ((3 : Int32), h4) else none
  | some (.inr v4, h4) => (sL h4 a2 (0 : Int32) (v4.toInt64)).bind fun h8 => some ((0 : Int32), h8))
set_option maxRecDepth 20000 in
set_option maxHeartbeats 4000000 in
theorem S_L_rules {d : Nat} (hd : 9 ≤ d) {a0 : Option Nat} {a1 : Int32} {a2 : Option Nat} {h : MH} {r : Int32} {hz : MH} (hK : F_L_rules a0 a1 a2 h = some (r, hz)) : mm_MW yL_rules cL_rules 4 (some .int) [(0, 9, 12, 19), (0, 9, 15, 45), (0, 9, 18, 13)] d [va_rf a0, .int a1, va_rf a2] h (.inr (some (.int r))) hz := by
  refine mD_ofV (by decide +kernel) (by simp [lg_sl, mm_crf, mm_cti, mm_ctl]) (fun V C => ?_)
  have hLV : lv_args 0 [va_rf a0, .int a1, va_rf a2] = [(0, va_rf a0), (1, .int a1), (2, va_rf a2)] := by simp [lv_args, mm_crf, mm_cti, mm_ctl]
  rw [hLV]
  unfold F_L_rules at hK
  obtain ⟨o4, hK⟩ := cV_some hK
  refine mD_aload_n C (pc := 0) 2 dL_rules_0 rfl ?_
  refine mD_iconst C (pc := 1) (v := (0 : Int32)) dL_rules_1 (by decide) ?_
  refine mD_aload_n C (pc := 2) 0 dL_rules_2 rfl ?_
  refine mD_iload_n C (pc := 3) 1 dL_rules_3 rfl ?_
  split at hK
  · cases hK
  · rename_i E h4 e4
    by_cases hE0 : E = "java/util/NoSuchElementException"
    · replace hK := mm_ip hE0 hK
      subst hE0
      refine mD_callVC C (pc := 4) (d1 := 8) (As := [.int a1]) (st := [.int (0 : Int32), va_rf a2]) (S_X11_rules (by omega) e4) tT_X11_rules o4 (Or.inr ⟨_, rfl, rfl⟩) wd_1877 wd_1878 wd_1879 (by omega) (by decide) rfl (by simp [mm_crf, mm_cti, mm_ctl]) rfl dL_rules_4 [] ⟨0, 9, 12, 19⟩ [⟨0, 9, 15, 45⟩, ⟨0, 9, 18, 13⟩] rfl (fun z hz => nomatch hz) (by decide) (by decide) wd_1425 wc_java_util_NoSuchElementException (ka := 3) (by decide) (Or.inl ⟨3, rfl, rfl, dL_rules_12⟩) ?_
      refine mD_iconst C (pc := 13) (v := (1 : Int32)) dL_rules_13 (by decide) ?_
      cases hK
      exact mD_iret C (pc := 14) rfl dL_rules_14 rfl rfl
    replace hK := mm_in hE0 hK
    by_cases hE1 : E = "java/lang/IllegalStateException"
    · replace hK := mm_ip hE1 hK
      subst hE1
      refine mD_callVC C (pc := 4) (d1 := 8) (As := [.int a1]) (st := [.int (0 : Int32), va_rf a2]) (S_X11_rules (by omega) e4) tT_X11_rules o4 (Or.inr ⟨_, rfl, rfl⟩) wd_1877 wd_1878 wd_1879 (by omega) (by decide) rfl (by simp [mm_crf, mm_cti, mm_ctl]) rfl dL_rules_4 [⟨0, 9, 12, 19⟩] ⟨0, 9, 15, 45⟩ [⟨0, 9, 18, 13⟩] rfl (by intro z hz; simp only [List.mem_cons, List.not_mem_nil, or_false] at hz; subst hz; exact Or.inr ⟨by decide, _, wd_1425, by decide⟩) (by decide) (by decide) wd_1536 wc_java_lang_IllegalStateException (ka := 3) (by decide) (Or.inl ⟨3, rfl, rfl, dL_rules_15⟩) ?_
      refine mD_iconst C (pc := 16) (v := (2 : Int32)) dL_rules_16 (by decide) ?_
      cases hK
      exact mD_iret C (pc := 17) rfl dL_rules_17 rfl rfl
    replace hK := mm_in hE1 hK
    by_cases hE2 : E = "java/lang/IllegalArgumentException"
    · replace hK := mm_ip hE2 hK
      subst hE2
      refine mD_callVC C (pc := 4) (d1 := 8) (As := [.int a1]) (st := [.int (0 : Int32), va_rf a2]) (S_X11_rules (by omega) e4) tT_X11_rules o4 (Or.inr ⟨_, rfl, rfl⟩) wd_1877 wd_1878 wd_1879 (by omega) (by decide) rfl (by simp [mm_crf, mm_cti, mm_ctl]) rfl dL_rules_4 [⟨0, 9, 12, 19⟩, ⟨0, 9, 15, 45⟩] ⟨0, 9, 18, 13⟩ [] rfl (by intro z hz; simp only [List.mem_cons, List.not_mem_nil, or_false] at hz; rcases hz with rfl | rfl; exact Or.inr ⟨by decide, _, wd_1425, by decide⟩; exact Or.inr ⟨by decide, _, wd_1536, by decide⟩) (by decide) (by decide) wd_1158 wc_java_lang_IllegalArgumentException (ka := 3) (by decide) (Or.inl ⟨3, rfl, rfl, dL_rules_18⟩) ?_
      refine mD_iconst C (pc := 19) (v := (3 : Int32)) dL_rules_19 (by decide) ?_
      cases hK
      exact mD_iret C (pc := 20) rfl dL_rules_20 rfl rfl
    replace hK := mm_in hE2 hK
    cases hK
  · rename_i v4 h4 e4
    refine mD_callV C (pc := 4) (d1 := 8) (As := [.int a1]) (st := [.int (0 : Int32), va_rf a2]) (vk := (some (.int v4))) (S_X11_rules (by omega) e4) tT_X11_rules o4 (Or.inr ⟨_, rfl, rfl⟩) wd_1877 wd_1878 wd_1879 (by omega) (by decide) rfl (by simp [mm_crf, mm_cti, mm_ctl]) rfl dL_rules_4 ?_
    show V _ _ (.int v4 :: _) _
    refine mD_i2l C (pc := 7) dL_rules_7 ?_
    replace hK := mm_bd hK; obtain ⟨h8, e8, hK⟩ := hK
    refine mD_last C (pc := 8) dL_rules_8 e8 ?_
    refine mD_goto C (pc := 9) (tgt := 21) dL_rules_9 (by decide) ?_
    refine mD_iconst C (pc := 21) (v := (0 : Int32)) dL_rules_21 (by decide) ?_
    cases hK
    exact mD_iret C (pc := 22) rfl dL_rules_22 rfl rfl
theorem dL_rule_0 : decode cL_rule 0 = .ok (.aload_n 3, 1) := by decide +kernel
theorem dL_rule_1 : decode cL_rule 1 = .ok (.iconst 0, 1) := by decide +kernel
theorem dL_rule_2 : decode cL_rule 2 = .ok (.aload_n 0, 1) := by decide +kernel
theorem dL_rule_3 : decode cL_rule 3 = .ok (.iload_n 1, 1) := by decide +kernel
theorem dL_rule_4 : decode cL_rule 4 = .ok (.iload_n 2, 1) := by decide +kernel
theorem dL_rule_5 : decode cL_rule 5 = .ok (.invokevirtual 101, 3) := by decide +kernel
theorem dL_rule_8 : decode cL_rule 8 = .ok (.i2l, 1) := by decide +kernel
theorem dL_rule_9 : decode cL_rule 9 = .ok (.lastore, 1) := by decide +kernel
theorem dL_rule_10 : decode cL_rule 10 = .ok (.goto 15, 3) := by decide +kernel
theorem dL_rule_13 : decode cL_rule 13 = .ok (.astore 4, 2) := by decide +kernel
theorem dL_rule_15 : decode cL_rule 15 = .ok (.iconst 1, 1) := by decide +kernel
theorem dL_rule_16 : decode cL_rule 16 = .ok (.ireturn, 1) := by decide +kernel
theorem dL_rule_17 : decode cL_rule 17 = .ok (.astore 4, 2) := by decide +kernel
theorem dL_rule_19 : decode cL_rule 19 = .ok (.iconst 2, 1) := by decide +kernel
theorem dL_rule_20 : decode cL_rule 20 = .ok (.ireturn, 1) := by decide +kernel
theorem dL_rule_21 : decode cL_rule 21 = .ok (.astore 4, 2) := by decide +kernel
theorem dL_rule_23 : decode cL_rule 23 = .ok (.iconst 3, 1) := by decide +kernel
theorem dL_rule_24 : decode cL_rule 24 = .ok (.ireturn, 1) := by decide +kernel
theorem dL_rule_25 : decode cL_rule 25 = .ok (.iconst 0, 1) := by decide +kernel
theorem dL_rule_26 : decode cL_rule 26 = .ok (.ireturn, 1) := by decide +kernel
theorem wd_1897 : Cond.methodLink RL 101 yX11_rule ∈ lw_good := mm_wd 1897 (by decide +kernel) (by decide +kernel)
theorem wd_1898 : Cond.instanceMethod yX11_rule ∈ lw_good := mm_wd 1898 (by decide +kernel) (by decide +kernel)
theorem wd_1899 : Cond.selects RX11 yX11_rule yX11_rule ∈ lw_good := mm_wd 1899 (by decide +kernel) (by decide +kernel)
theorem wd_1900 : Cond.code yX11_rule cX11_rule 6 (some .int) ∈ lw_good := mm_wd 1900 (by decide +kernel) (by decide +kernel)
theorem tT_X11_rule : mm_T yX11_rule cX11_rule 6 (some .int) 2 := ⟨wd_1900, wd_142, by decide +kernel, by decide +kernel, by decide +kernel, by decide +kernel⟩
def F_L_rule (a0 : Option Nat) (a1 : Int32) (a2 : Int32) (a3 : Option Nat) (h : MH) : Option (Int32 × MH) := cV h a0 11 (match F_X11_rule a0 a1 a2 h with
  | none => none
  | some (.inl E, h5) => if E = "java/util/NoSuchElementException" then some ((1 : Int32), h5) else if E = "java/lang/IllegalStateException" then some ((2 : Int32), h5) else if E = "java/lang/IllegalArgumentException" then some ((3 : Int32), h5) else none
  | some (.inr v5, h5) => (sL h5 a3 (0 : Int32) (v5.toInt64)).bind fun h9 => some ((0 : Int32), h9))
set_option maxRecDepth 20000 in
set_option maxHeartbeats 4000000 in
theorem S_L_rule {d : Nat} (hd : 9 ≤ d) {a0 : Option Nat} {a1 : Int32} {a2 : Int32} {a3 : Option Nat} {h : MH} {r : Int32} {hz : MH} (hK : F_L_rule a0 a1 a2 a3 h = some (r, hz)) : mm_MW yL_rule cL_rule 5 (some .int) [(0, 10, 13, 19), (0, 10, 17, 45), (0, 10, 21, 13)] d [va_rf a0, .int a1, .int a2, va_rf a3] h (.inr (some (.int r))) hz := by
  refine mD_ofV (by decide +kernel) (by simp [lg_sl, mm_crf, mm_cti, mm_ctl]) (fun V C => ?_)
  have hLV : lv_args 0 [va_rf a0, .int a1, .int a2, va_rf a3] = [(0, va_rf a0), (1, .int a1), (2, .int a2), (3, va_rf a3)] := by simp [lv_args, mm_crf, mm_cti, mm_ctl]
  rw [hLV]
  unfold F_L_rule at hK
  obtain ⟨o5, hK⟩ := cV_some hK
  refine mD_aload_n C (pc := 0) 3 dL_rule_0 rfl ?_
  refine mD_iconst C (pc := 1) (v := (0 : Int32)) dL_rule_1 (by decide) ?_
  refine mD_aload_n C (pc := 2) 0 dL_rule_2 rfl ?_
  refine mD_iload_n C (pc := 3) 1 dL_rule_3 rfl ?_
  refine mD_iload_n C (pc := 4) 2 dL_rule_4 rfl ?_
  split at hK
  · cases hK
  · rename_i E h5 e5
    by_cases hE0 : E = "java/util/NoSuchElementException"
    · replace hK := mm_ip hE0 hK
      subst hE0
      refine mD_callVC C (pc := 5) (d1 := 8) (As := [.int a1, .int a2]) (st := [.int (0 : Int32), va_rf a3]) (S_X11_rule (by omega) e5) tT_X11_rule o5 (Or.inr ⟨_, rfl, rfl⟩) wd_1897 wd_1898 wd_1899 (by omega) (by decide) rfl (by simp [mm_crf, mm_cti, mm_ctl]) rfl dL_rule_5 [] ⟨0, 10, 13, 19⟩ [⟨0, 10, 17, 45⟩, ⟨0, 10, 21, 13⟩] rfl (fun z hz => nomatch hz) (by decide) (by decide) wd_1425 wc_java_util_NoSuchElementException (ka := 4) (by decide) (Or.inr ⟨rfl, dL_rule_13⟩) ?_
      refine mD_iconst C (pc := 15) (v := (1 : Int32)) dL_rule_15 (by decide) ?_
      cases hK
      exact mD_iret C (pc := 16) rfl dL_rule_16 rfl rfl
    replace hK := mm_in hE0 hK
    by_cases hE1 : E = "java/lang/IllegalStateException"
    · replace hK := mm_ip hE1 hK
      subst hE1
      refine mD_callVC C (pc := 5) (d1 := 8) (As := [.int a1, .int a2]) (st := [.int (0 : Int32), va_rf a3]) (S_X11_rule (by omega) e5) tT_X11_rule o5 (Or.inr ⟨_, rfl, rfl⟩) wd_1897 wd_1898 wd_1899 (by omega) (by decide) rfl (by simp [mm_crf, mm_cti, mm_ctl]) rfl dL_rule_5 [⟨0, 10, 13, 19⟩] ⟨0, 10, 17, 45⟩ [⟨0, 10, 21, 13⟩] rfl (by intro z hz; simp only [List.mem_cons, List.not_mem_nil, or_false] at hz; subst hz; exact Or.inr ⟨by decide, _, wd_1425, by decide⟩) (by decide) (by decide) wd_1536 wc_java_lang_IllegalStateException (ka := 4) (by decide) (Or.inr ⟨rfl, dL_rule_17⟩) ?_
      refine mD_iconst C (pc := 19) (v := (2 : Int32)) dL_rule_19 (by decide) ?_
      cases hK
      exact mD_iret C (pc := 20) rfl dL_rule_20 rfl rfl
    replace hK := mm_in hE1 hK
    by_cases hE2 : E = "java/lang/IllegalArgumentException"
    · replace hK := mm_ip hE2 hK
      subst hE2
      refine mD_callVC C (pc := 5) (d1 := 8) (As := [.int a1, .int a2]) (st := [.int (0 : Int32), va_rf a3]) (S_X11_rule (by omega) e5) tT_X11_rule o5 (Or.inr ⟨_, rfl, rfl⟩) wd_1897 wd_1898 wd_1899 (by omega) (by decide) rfl (by simp [mm_crf, mm_cti, mm_ctl]) rfl dL_rule_5 [⟨0, 10, 13, 19⟩, ⟨0, 10, 17, 45⟩] ⟨0, 10, 21, 13⟩ [] rfl (by intro z hz; simp only [List.mem_cons, List.not_mem_nil, or_false] at hz; rcases hz with rfl | rfl; exact Or.inr ⟨by decide, _, wd_1425, by decide⟩; exact Or.inr ⟨by decide, _, wd_1536, by decide⟩) (by decide) (by decide) wd_1158 wc_java_lang_IllegalArgumentException (ka := 4) (by decide) (Or.inr ⟨rfl, dL_rule_21⟩) ?_
      refine mD_iconst C (pc := 23) (v := (3 : Int32)) dL_rule_23 (by decide) ?_
      cases hK
      exact mD_iret C (pc := 24) rfl dL_rule_24 rfl rfl
    replace hK := mm_in hE2 hK
    cases hK
  · rename_i v5 h5 e5
    refine mD_callV C (pc := 5) (d1 := 8) (As := [.int a1, .int a2]) (st := [.int (0 : Int32), va_rf a3]) (vk := (some (.int v5))) (S_X11_rule (by omega) e5) tT_X11_rule o5 (Or.inr ⟨_, rfl, rfl⟩) wd_1897 wd_1898 wd_1899 (by omega) (by decide) rfl (by simp [mm_crf, mm_cti, mm_ctl]) rfl dL_rule_5 ?_
    show V _ _ (.int v5 :: _) _
    refine mD_i2l C (pc := 8) dL_rule_8 ?_
    replace hK := mm_bd hK; obtain ⟨h9, e9, hK⟩ := hK
    refine mD_last C (pc := 9) dL_rule_9 e9 ?_
    refine mD_goto C (pc := 10) (tgt := 25) dL_rule_10 (by decide) ?_
    refine mD_iconst C (pc := 25) (v := (0 : Int32)) dL_rule_25 (by decide) ?_
    cases hK
    exact mD_iret C (pc := 26) rfl dL_rule_26 rfl rfl
theorem dL_ask_0 : decode cL_ask 0 = .ok (.aload_n 2, 1) := by decide +kernel
theorem dL_ask_1 : decode cL_ask 1 = .ok (.iconst 0, 1) := by decide +kernel
theorem dL_ask_2 : decode cL_ask 2 = .ok (.aload_n 0, 1) := by decide +kernel
theorem dL_ask_3 : decode cL_ask 3 = .ok (.iload_n 1, 1) := by decide +kernel
theorem dL_ask_4 : decode cL_ask 4 = .ok (.invokevirtual 104, 3) := by decide +kernel
theorem dL_ask_7 : decode cL_ask 7 = .ok (.i2l, 1) := by decide +kernel
theorem dL_ask_8 : decode cL_ask 8 = .ok (.lastore, 1) := by decide +kernel
theorem dL_ask_9 : decode cL_ask 9 = .ok (.goto 12, 3) := by decide +kernel
theorem dL_ask_12 : decode cL_ask 12 = .ok (.astore_n 3, 1) := by decide +kernel
theorem dL_ask_13 : decode cL_ask 13 = .ok (.iconst 1, 1) := by decide +kernel
theorem dL_ask_14 : decode cL_ask 14 = .ok (.ireturn, 1) := by decide +kernel
theorem dL_ask_15 : decode cL_ask 15 = .ok (.astore_n 3, 1) := by decide +kernel
theorem dL_ask_16 : decode cL_ask 16 = .ok (.iconst 2, 1) := by decide +kernel
theorem dL_ask_17 : decode cL_ask 17 = .ok (.ireturn, 1) := by decide +kernel
theorem dL_ask_18 : decode cL_ask 18 = .ok (.astore_n 3, 1) := by decide +kernel
theorem dL_ask_19 : decode cL_ask 19 = .ok (.iconst 3, 1) := by decide +kernel
theorem dL_ask_20 : decode cL_ask 20 = .ok (.ireturn, 1) := by decide +kernel
theorem dL_ask_21 : decode cL_ask 21 = .ok (.iconst 0, 1) := by decide +kernel
theorem dL_ask_22 : decode cL_ask 22 = .ok (.ireturn, 1) := by decide +kernel
theorem wd_1905 : Cond.methodLink RL 104 yX11_ask ∈ lw_good := mm_wd 1905 (by decide +kernel) (by decide +kernel)
theorem wd_1906 : Cond.instanceMethod yX11_ask ∈ lw_good := mm_wd 1906 (by decide +kernel) (by decide +kernel)
theorem wd_1907 : Cond.selects RX11 yX11_ask yX11_ask ∈ lw_good := mm_wd 1907 (by decide +kernel) (by decide +kernel)
theorem wd_1908 : Cond.code yX11_ask cX11_ask 7 (some .int) ∈ lw_good := mm_wd 1908 (by decide +kernel) (by decide +kernel)
theorem tT_X11_ask : mm_T yX11_ask cX11_ask 7 (some .int) 1 := ⟨wd_1908, wd_142, by decide +kernel, by decide +kernel, by decide +kernel, by decide +kernel⟩
def F_L_ask (a0 : Option Nat) (a1 : Int32) (a2 : Option Nat) (h : MH) : Option (Int32 × MH) := cV h a0 11 (match F_X11_ask a0 a1 h with
  | none => none
  | some (.inl E, h4) => if E = "java/util/NoSuchElementException" then some ((1 : Int32), h4) else if E = "java/lang/IllegalStateException" then some ((2 : Int32), h4) else if E = "java/lang/IllegalArgumentException" then some ((3 : Int32), h4) else none
  | some (.inr v4, h4) => (sL h4 a2 (0 : Int32) (v4.toInt64)).bind fun h8 => some ((0 : Int32), h8))
set_option maxRecDepth 20000 in
set_option maxHeartbeats 4000000 in
theorem S_L_ask {d : Nat} (hd : 9 ≤ d) {a0 : Option Nat} {a1 : Int32} {a2 : Option Nat} {h : MH} {r : Int32} {hz : MH} (hK : F_L_ask a0 a1 a2 h = some (r, hz)) : mm_MW yL_ask cL_ask 4 (some .int) [(0, 9, 12, 19), (0, 9, 15, 45), (0, 9, 18, 13)] d [va_rf a0, .int a1, va_rf a2] h (.inr (some (.int r))) hz := by
  refine mD_ofV (by decide +kernel) (by simp [lg_sl, mm_crf, mm_cti, mm_ctl]) (fun V C => ?_)
  have hLV : lv_args 0 [va_rf a0, .int a1, va_rf a2] = [(0, va_rf a0), (1, .int a1), (2, va_rf a2)] := by simp [lv_args, mm_crf, mm_cti, mm_ctl]
  rw [hLV]
  unfold F_L_ask at hK
  obtain ⟨o4, hK⟩ := cV_some hK
  refine mD_aload_n C (pc := 0) 2 dL_ask_0 rfl ?_
  refine mD_iconst C (pc := 1) (v := (0 : Int32)) dL_ask_1 (by decide) ?_
  refine mD_aload_n C (pc := 2) 0 dL_ask_2 rfl ?_
  refine mD_iload_n C (pc := 3) 1 dL_ask_3 rfl ?_
  split at hK
  · cases hK
  · rename_i E h4 e4
    by_cases hE0 : E = "java/util/NoSuchElementException"
    · replace hK := mm_ip hE0 hK
      subst hE0
      refine mD_callVC C (pc := 4) (d1 := 8) (As := [.int a1]) (st := [.int (0 : Int32), va_rf a2]) (S_X11_ask (by omega) e4) tT_X11_ask o4 (Or.inr ⟨_, rfl, rfl⟩) wd_1905 wd_1906 wd_1907 (by omega) (by decide) rfl (by simp [mm_crf, mm_cti, mm_ctl]) rfl dL_ask_4 [] ⟨0, 9, 12, 19⟩ [⟨0, 9, 15, 45⟩, ⟨0, 9, 18, 13⟩] rfl (fun z hz => nomatch hz) (by decide) (by decide) wd_1425 wc_java_util_NoSuchElementException (ka := 3) (by decide) (Or.inl ⟨3, rfl, rfl, dL_ask_12⟩) ?_
      refine mD_iconst C (pc := 13) (v := (1 : Int32)) dL_ask_13 (by decide) ?_
      cases hK
      exact mD_iret C (pc := 14) rfl dL_ask_14 rfl rfl
    replace hK := mm_in hE0 hK
    by_cases hE1 : E = "java/lang/IllegalStateException"
    · replace hK := mm_ip hE1 hK
      subst hE1
      refine mD_callVC C (pc := 4) (d1 := 8) (As := [.int a1]) (st := [.int (0 : Int32), va_rf a2]) (S_X11_ask (by omega) e4) tT_X11_ask o4 (Or.inr ⟨_, rfl, rfl⟩) wd_1905 wd_1906 wd_1907 (by omega) (by decide) rfl (by simp [mm_crf, mm_cti, mm_ctl]) rfl dL_ask_4 [⟨0, 9, 12, 19⟩] ⟨0, 9, 15, 45⟩ [⟨0, 9, 18, 13⟩] rfl (by intro z hz; simp only [List.mem_cons, List.not_mem_nil, or_false] at hz; subst hz; exact Or.inr ⟨by decide, _, wd_1425, by decide⟩) (by decide) (by decide) wd_1536 wc_java_lang_IllegalStateException (ka := 3) (by decide) (Or.inl ⟨3, rfl, rfl, dL_ask_15⟩) ?_
      refine mD_iconst C (pc := 16) (v := (2 : Int32)) dL_ask_16 (by decide) ?_
      cases hK
      exact mD_iret C (pc := 17) rfl dL_ask_17 rfl rfl
    replace hK := mm_in hE1 hK
    by_cases hE2 : E = "java/lang/IllegalArgumentException"
    · replace hK := mm_ip hE2 hK
      subst hE2
      refine mD_callVC C (pc := 4) (d1 := 8) (As := [.int a1]) (st := [.int (0 : Int32), va_rf a2]) (S_X11_ask (by omega) e4) tT_X11_ask o4 (Or.inr ⟨_, rfl, rfl⟩) wd_1905 wd_1906 wd_1907 (by omega) (by decide) rfl (by simp [mm_crf, mm_cti, mm_ctl]) rfl dL_ask_4 [⟨0, 9, 12, 19⟩, ⟨0, 9, 15, 45⟩] ⟨0, 9, 18, 13⟩ [] rfl (by intro z hz; simp only [List.mem_cons, List.not_mem_nil, or_false] at hz; rcases hz with rfl | rfl; exact Or.inr ⟨by decide, _, wd_1425, by decide⟩; exact Or.inr ⟨by decide, _, wd_1536, by decide⟩) (by decide) (by decide) wd_1158 wc_java_lang_IllegalArgumentException (ka := 3) (by decide) (Or.inl ⟨3, rfl, rfl, dL_ask_18⟩) ?_
      refine mD_iconst C (pc := 19) (v := (3 : Int32)) dL_ask_19 (by decide) ?_
      cases hK
      exact mD_iret C (pc := 20) rfl dL_ask_20 rfl rfl
    replace hK := mm_in hE2 hK
    cases hK
  · rename_i v4 h4 e4
    refine mD_callV C (pc := 4) (d1 := 8) (As := [.int a1]) (st := [.int (0 : Int32), va_rf a2]) (vk := (some (.int v4))) (S_X11_ask (by omega) e4) tT_X11_ask o4 (Or.inr ⟨_, rfl, rfl⟩) wd_1905 wd_1906 wd_1907 (by omega) (by decide) rfl (by simp [mm_crf, mm_cti, mm_ctl]) rfl dL_ask_4 ?_
    show V _ _ (.int v4 :: _) _
    refine mD_i2l C (pc := 7) dL_ask_7 ?_
    replace hK := mm_bd hK; obtain ⟨h8, e8, hK⟩ := hK
    refine mD_last C (pc := 8) dL_ask_8 e8 ?_
    refine mD_goto C (pc := 9) (tgt := 21) dL_ask_9 (by decide) ?_
    refine mD_iconst C (pc := 21) (v := (0 : Int32)) dL_ask_21 (by decide) ?_
    cases hK
    exact mD_iret C (pc := 22) rfl dL_ask_22 rfl rfl
theorem dL_tray_0 : decode cL_tray 0 = .ok (.aload_n 0, 1) := by decide +kernel
theorem dL_tray_1 : decode cL_tray 1 = .ok (.iload_n 1, 1) := by decide +kernel
theorem dL_tray_2 : decode cL_tray 2 = .ok (.iload_n 2, 1) := by decide +kernel
theorem dL_tray_3 : decode cL_tray 3 = .ok (.iload_n 3, 1) := by decide +kernel
theorem dL_tray_4 : decode cL_tray 4 = .ok (.invokevirtual 107, 3) := by decide +kernel
theorem dL_tray_7 : decode cL_tray 7 = .ok (.goto 11, 3) := by decide +kernel
theorem dL_tray_10 : decode cL_tray 10 = .ok (.astore 4, 2) := by decide +kernel
theorem dL_tray_12 : decode cL_tray 12 = .ok (.iconst 1, 1) := by decide +kernel
theorem dL_tray_13 : decode cL_tray 13 = .ok (.ireturn, 1) := by decide +kernel
theorem dL_tray_14 : decode cL_tray 14 = .ok (.astore 4, 2) := by decide +kernel
theorem dL_tray_16 : decode cL_tray 16 = .ok (.iconst 2, 1) := by decide +kernel
theorem dL_tray_17 : decode cL_tray 17 = .ok (.ireturn, 1) := by decide +kernel
theorem dL_tray_18 : decode cL_tray 18 = .ok (.iconst 0, 1) := by decide +kernel
theorem dL_tray_19 : decode cL_tray 19 = .ok (.ireturn, 1) := by decide +kernel
theorem wd_1918 : Cond.methodLink RL 107 yX11_tray ∈ lw_good := mm_wd 1918 (by decide +kernel) (by decide +kernel)
theorem wd_1919 : Cond.instanceMethod yX11_tray ∈ lw_good := mm_wd 1919 (by decide +kernel) (by decide +kernel)
theorem wd_1920 : Cond.selects RX11 yX11_tray yX11_tray ∈ lw_good := mm_wd 1920 (by decide +kernel) (by decide +kernel)
theorem wd_1921 : Cond.code yX11_tray cX11_tray 5 none ∈ lw_good := mm_wd 1921 (by decide +kernel) (by decide +kernel)
theorem tT_X11_tray : mm_T yX11_tray cX11_tray 5 none 3 := ⟨wd_1921, wd_142, by decide +kernel, by decide +kernel, by decide +kernel, by decide +kernel⟩
def F_L_tray (a0 : Option Nat) (a1 : Int32) (a2 : Int32) (a3 : Int32) (h : MH) : Option (Int32 × MH) := cV h a0 11 (match F_X11_tray a0 a1 a2 a3 h with
  | none => none
  | some (.inl E, h4) => if E = "java/util/NoSuchElementException" then some ((1 : Int32), h4) else if E = "java/lang/IllegalArgumentException" then some ((2 : Int32), h4) else none
  | some (.inr _, h4) => some ((0 : Int32), h4))
set_option maxRecDepth 20000 in
set_option maxHeartbeats 4000000 in
theorem S_L_tray {d : Nat} (hd : 8 ≤ d) {a0 : Option Nat} {a1 : Int32} {a2 : Int32} {a3 : Int32} {h : MH} {r : Int32} {hz : MH} (hK : F_L_tray a0 a1 a2 a3 h = some (r, hz)) : mm_MW yL_tray cL_tray 5 (some .int) [(0, 7, 10, 19), (0, 7, 14, 13)] d [va_rf a0, .int a1, .int a2, .int a3] h (.inr (some (.int r))) hz := by
  refine mD_ofV (by decide +kernel) (by simp [lg_sl, mm_crf, mm_cti, mm_ctl]) (fun V C => ?_)
  have hLV : lv_args 0 [va_rf a0, .int a1, .int a2, .int a3] = [(0, va_rf a0), (1, .int a1), (2, .int a2), (3, .int a3)] := by simp [lv_args, mm_crf, mm_cti, mm_ctl]
  rw [hLV]
  unfold F_L_tray at hK
  obtain ⟨o4, hK⟩ := cV_some hK
  refine mD_aload_n C (pc := 0) 0 dL_tray_0 rfl ?_
  refine mD_iload_n C (pc := 1) 1 dL_tray_1 rfl ?_
  refine mD_iload_n C (pc := 2) 2 dL_tray_2 rfl ?_
  refine mD_iload_n C (pc := 3) 3 dL_tray_3 rfl ?_
  split at hK
  · cases hK
  · rename_i E h4 e4
    by_cases hE0 : E = "java/util/NoSuchElementException"
    · replace hK := mm_ip hE0 hK
      subst hE0
      refine mD_callVC C (pc := 4) (d1 := 7) (As := [.int a1, .int a2, .int a3]) (st := []) (S_X11_tray (by omega) e4) tT_X11_tray o4 (Or.inr ⟨_, rfl, rfl⟩) wd_1918 wd_1919 wd_1920 (by omega) (by decide) rfl (by simp [mm_crf, mm_cti, mm_ctl]) rfl dL_tray_4 [] ⟨0, 7, 10, 19⟩ [⟨0, 7, 14, 13⟩] rfl (fun z hz => nomatch hz) (by decide) (by decide) wd_1425 wc_java_util_NoSuchElementException (ka := 4) (by decide) (Or.inr ⟨rfl, dL_tray_10⟩) ?_
      refine mD_iconst C (pc := 12) (v := (1 : Int32)) dL_tray_12 (by decide) ?_
      cases hK
      exact mD_iret C (pc := 13) rfl dL_tray_13 rfl rfl
    replace hK := mm_in hE0 hK
    by_cases hE1 : E = "java/lang/IllegalArgumentException"
    · replace hK := mm_ip hE1 hK
      subst hE1
      refine mD_callVC C (pc := 4) (d1 := 7) (As := [.int a1, .int a2, .int a3]) (st := []) (S_X11_tray (by omega) e4) tT_X11_tray o4 (Or.inr ⟨_, rfl, rfl⟩) wd_1918 wd_1919 wd_1920 (by omega) (by decide) rfl (by simp [mm_crf, mm_cti, mm_ctl]) rfl dL_tray_4 [⟨0, 7, 10, 19⟩] ⟨0, 7, 14, 13⟩ [] rfl (by intro z hz; simp only [List.mem_cons, List.not_mem_nil, or_false] at hz; subst hz; exact Or.inr ⟨by decide, _, wd_1425, by decide⟩) (by decide) (by decide) wd_1158 wc_java_lang_IllegalArgumentException (ka := 4) (by decide) (Or.inr ⟨rfl, dL_tray_14⟩) ?_
      refine mD_iconst C (pc := 16) (v := (2 : Int32)) dL_tray_16 (by decide) ?_
      cases hK
      exact mD_iret C (pc := 17) rfl dL_tray_17 rfl rfl
    replace hK := mm_in hE1 hK
    cases hK
  · rename_i x4 h4 e4
    refine mD_callV C (pc := 4) (d1 := 7) (As := [.int a1, .int a2, .int a3]) (st := []) (vk := none) (S_X11_tray (by omega) e4) tT_X11_tray o4 (Or.inr ⟨_, rfl, rfl⟩) wd_1918 wd_1919 wd_1920 (by omega) (by decide) rfl (by simp [mm_crf, mm_cti, mm_ctl]) rfl dL_tray_4 ?_
    show V _ _ [] _
    refine mD_goto C (pc := 7) (tgt := 18) dL_tray_7 (by decide) ?_
    refine mD_iconst C (pc := 18) (v := (0 : Int32)) dL_tray_18 (by decide) ?_
    cases hK
    exact mD_iret C (pc := 19) rfl dL_tray_19 rfl rfl
theorem dL_write_0 : decode cL_write 0 = .ok (.aload 5, 2) := by decide +kernel
theorem dL_write_2 : decode cL_write 2 = .ok (.iconst 0, 1) := by decide +kernel
theorem dL_write_3 : decode cL_write 3 = .ok (.aload_n 0, 1) := by decide +kernel
theorem dL_write_4 : decode cL_write 4 = .ok (.iload_n 1, 1) := by decide +kernel
theorem dL_write_5 : decode cL_write 5 = .ok (.iload_n 2, 1) := by decide +kernel
theorem dL_write_6 : decode cL_write 6 = .ok (.lload_n 3, 1) := by decide +kernel
theorem dL_write_7 : decode cL_write 7 = .ok (.invokevirtual 111, 3) := by decide +kernel
theorem dL_write_10 : decode cL_write 10 = .ok (.lastore, 1) := by decide +kernel
theorem dL_write_11 : decode cL_write 11 = .ok (.goto 15, 3) := by decide +kernel
theorem dL_write_14 : decode cL_write 14 = .ok (.astore 6, 2) := by decide +kernel
theorem dL_write_16 : decode cL_write 16 = .ok (.iconst 1, 1) := by decide +kernel
theorem dL_write_17 : decode cL_write 17 = .ok (.ireturn, 1) := by decide +kernel
theorem dL_write_18 : decode cL_write 18 = .ok (.astore 6, 2) := by decide +kernel
theorem dL_write_20 : decode cL_write 20 = .ok (.iconst 2, 1) := by decide +kernel
theorem dL_write_21 : decode cL_write 21 = .ok (.ireturn, 1) := by decide +kernel
theorem dL_write_22 : decode cL_write 22 = .ok (.astore 6, 2) := by decide +kernel
theorem dL_write_24 : decode cL_write 24 = .ok (.iconst 3, 1) := by decide +kernel
theorem dL_write_25 : decode cL_write 25 = .ok (.ireturn, 1) := by decide +kernel
theorem dL_write_26 : decode cL_write 26 = .ok (.iconst 0, 1) := by decide +kernel
theorem dL_write_27 : decode cL_write 27 = .ok (.ireturn, 1) := by decide +kernel
theorem wd_1934 : Cond.methodLink RL 111 yX11_write ∈ lw_good := mm_wd 1934 (by decide +kernel) (by decide +kernel)
theorem wd_1935 : Cond.instanceMethod yX11_write ∈ lw_good := mm_wd 1935 (by decide +kernel) (by decide +kernel)
theorem wd_1936 : Cond.selects RX11 yX11_write yX11_write ∈ lw_good := mm_wd 1936 (by decide +kernel) (by decide +kernel)
theorem wd_1937 : Cond.code yX11_write cX11_write 6 (some .long) ∈ lw_good := mm_wd 1937 (by decide +kernel) (by decide +kernel)
theorem tT_X11_write : mm_T yX11_write cX11_write 6 (some .long) 3 := ⟨wd_1937, wd_142, by decide +kernel, by decide +kernel, by decide +kernel, by decide +kernel⟩
theorem wd_1933 : Cond.classLink RL 115 "java/lang/IndexOutOfBoundsException" ∈ lw_good := mm_wd 1933 (by decide +kernel) (by decide +kernel)
theorem wc_java_lang_IndexOutOfBoundsException : Cond.castable "java/lang/IndexOutOfBoundsException" "java/lang/IndexOutOfBoundsException" ∈ mm_nw := List.mem_filter.mpr ⟨by decide +kernel, by decide +kernel⟩
def F_L_write (a0 : Option Nat) (a1 : Int32) (a2 : Int32) (a3 : Int64) (a4 : Option Nat) (h : MH) : Option (Int32 × MH) := cV h a0 11 (match F_X11_write a0 a1 a2 a3 h with
  | none => none
  | some (.inl E, h7) => if E = "java/util/NoSuchElementException" then some ((1 : Int32), h7) else if E = "java/lang/IllegalStateException" then some ((2 : Int32), h7) else if E = "java/lang/IndexOutOfBoundsException" then some ((3 : Int32), h7) else none
  | some (.inr v7, h7) => (sL h7 a4 (0 : Int32) v7).bind fun h10 => some ((0 : Int32), h10))
set_option maxRecDepth 20000 in
set_option maxHeartbeats 4000000 in
theorem S_L_write {d : Nat} (hd : 9 ≤ d) {a0 : Option Nat} {a1 : Int32} {a2 : Int32} {a3 : Int64} {a4 : Option Nat} {h : MH} {r : Int32} {hz : MH} (hK : F_L_write a0 a1 a2 a3 a4 h = some (r, hz)) : mm_MW yL_write cL_write 7 (some .int) [(0, 11, 14, 19), (0, 11, 18, 45), (0, 11, 22, 115)] d [va_rf a0, .int a1, .int a2, .long a3, va_rf a4] h (.inr (some (.int r))) hz := by
  refine mD_ofV (by decide +kernel) (by simp [lg_sl, mm_crf, mm_cti, mm_ctl]) (fun V C => ?_)
  have hLV : lv_args 0 [va_rf a0, .int a1, .int a2, .long a3, va_rf a4] = [(0, va_rf a0), (1, .int a1), (2, .int a2), (3, .long a3), (5, va_rf a4)] := by simp [lv_args, mm_crf, mm_cti, mm_ctl]
  rw [hLV]
  unfold F_L_write at hK
  obtain ⟨o7, hK⟩ := cV_some hK
  refine mD_aload C (pc := 0) 4 dL_write_0 rfl ?_
  refine mD_iconst C (pc := 2) (v := (0 : Int32)) dL_write_2 (by decide) ?_
  refine mD_aload_n C (pc := 3) 0 dL_write_3 rfl ?_
  refine mD_iload_n C (pc := 4) 1 dL_write_4 rfl ?_
  refine mD_iload_n C (pc := 5) 2 dL_write_5 rfl ?_
  refine mD_lload_n C (pc := 6) 3 dL_write_6 rfl ?_
  split at hK
  · cases hK
  · rename_i E h7 e7
    by_cases hE0 : E = "java/util/NoSuchElementException"
    · replace hK := mm_ip hE0 hK
      subst hE0
      refine mD_callVC C (pc := 7) (d1 := 8) (As := [.int a1, .int a2, .long a3]) (st := [.int (0 : Int32), va_rf a4]) (S_X11_write (by omega) e7) tT_X11_write o7 (Or.inr ⟨_, rfl, rfl⟩) wd_1934 wd_1935 wd_1936 (by omega) (by decide) rfl (by simp [mm_crf, mm_cti, mm_ctl]) rfl dL_write_7 [] ⟨0, 11, 14, 19⟩ [⟨0, 11, 18, 45⟩, ⟨0, 11, 22, 115⟩] rfl (fun z hz => nomatch hz) (by decide) (by decide) wd_1425 wc_java_util_NoSuchElementException (ka := 6) (by decide) (Or.inr ⟨rfl, dL_write_14⟩) ?_
      refine mD_iconst C (pc := 16) (v := (1 : Int32)) dL_write_16 (by decide) ?_
      cases hK
      exact mD_iret C (pc := 17) rfl dL_write_17 rfl rfl
    replace hK := mm_in hE0 hK
    by_cases hE1 : E = "java/lang/IllegalStateException"
    · replace hK := mm_ip hE1 hK
      subst hE1
      refine mD_callVC C (pc := 7) (d1 := 8) (As := [.int a1, .int a2, .long a3]) (st := [.int (0 : Int32), va_rf a4]) (S_X11_write (by omega) e7) tT_X11_write o7 (Or.inr ⟨_, rfl, rfl⟩) wd_1934 wd_1935 wd_1936 (by omega) (by decide) rfl (by simp [mm_crf, mm_cti, mm_ctl]) rfl dL_write_7 [⟨0, 11, 14, 19⟩] ⟨0, 11, 18, 45⟩ [⟨0, 11, 22, 115⟩] rfl (by intro z hz; simp only [List.mem_cons, List.not_mem_nil, or_false] at hz; subst hz; exact Or.inr ⟨by decide, _, wd_1425, by decide⟩) (by decide) (by decide) wd_1536 wc_java_lang_IllegalStateException (ka := 6) (by decide) (Or.inr ⟨rfl, dL_write_18⟩) ?_
      refine mD_iconst C (pc := 20) (v := (2 : Int32)) dL_write_20 (by decide) ?_
      cases hK
      exact mD_iret C (pc := 21) rfl dL_write_21 rfl rfl
    replace hK := mm_in hE1 hK
    by_cases hE2 : E = "java/lang/IndexOutOfBoundsException"
    · replace hK := mm_ip hE2 hK
      subst hE2
      refine mD_callVC C (pc := 7) (d1 := 8) (As := [.int a1, .int a2, .long a3]) (st := [.int (0 : Int32), va_rf a4]) (S_X11_write (by omega) e7) tT_X11_write o7 (Or.inr ⟨_, rfl, rfl⟩) wd_1934 wd_1935 wd_1936 (by omega) (by decide) rfl (by simp [mm_crf, mm_cti, mm_ctl]) rfl dL_write_7 [⟨0, 11, 14, 19⟩, ⟨0, 11, 18, 45⟩] ⟨0, 11, 22, 115⟩ [] rfl (by intro z hz; simp only [List.mem_cons, List.not_mem_nil, or_false] at hz; rcases hz with rfl | rfl; exact Or.inr ⟨by decide, _, wd_1425, by decide⟩; exact Or.inr ⟨by decide, _, wd_1536, by decide⟩) (by decide) (by decide) wd_1933 wc_java_lang_IndexOutOfBoundsException (ka := 6) (by decide) (Or.inr ⟨rfl, dL_write_22⟩) ?_
      refine mD_iconst C (pc := 24) (v := (3 : Int32)) dL_write_24 (by decide) ?_
      cases hK
      exact mD_iret C (pc := 25) rfl dL_write_25 rfl rfl
    replace hK := mm_in hE2 hK
    cases hK
  · rename_i v7 h7 e7
    refine mD_callV C (pc := 7) (d1 := 8) (As := [.int a1, .int a2, .long a3]) (st := [.int (0 : Int32), va_rf a4]) (vk := (some (.long v7))) (S_X11_write (by omega) e7) tT_X11_write o7 (Or.inr ⟨_, rfl, rfl⟩) wd_1934 wd_1935 wd_1936 (by omega) (by decide) rfl (by simp [mm_crf, mm_cti, mm_ctl]) rfl dL_write_7 ?_
    show V _ _ (.long v7 :: _) _
    replace hK := mm_bd hK; obtain ⟨h10, e10, hK⟩ := hK
    refine mD_last C (pc := 10) dL_write_10 e10 ?_
    refine mD_goto C (pc := 11) (tgt := 26) dL_write_11 (by decide) ?_
    refine mD_iconst C (pc := 26) (v := (0 : Int32)) dL_write_26 (by decide) ?_
    cases hK
    exact mD_iret C (pc := 27) rfl dL_write_27 rfl rfl
theorem dL_copy_0 : decode cL_copy 0 = .ok (.aload_n 2, 1) := by decide +kernel
theorem dL_copy_1 : decode cL_copy 1 = .ok (.iconst 0, 1) := by decide +kernel
theorem dL_copy_2 : decode cL_copy 2 = .ok (.aload_n 0, 1) := by decide +kernel
theorem dL_copy_3 : decode cL_copy 3 = .ok (.iload_n 1, 1) := by decide +kernel
theorem dL_copy_4 : decode cL_copy 4 = .ok (.invokevirtual 117, 3) := by decide +kernel
theorem dL_copy_7 : decode cL_copy 7 = .ok (.i2l, 1) := by decide +kernel
theorem dL_copy_8 : decode cL_copy 8 = .ok (.lastore, 1) := by decide +kernel
theorem dL_copy_9 : decode cL_copy 9 = .ok (.goto 9, 3) := by decide +kernel
theorem dL_copy_12 : decode cL_copy 12 = .ok (.astore_n 3, 1) := by decide +kernel
theorem dL_copy_13 : decode cL_copy 13 = .ok (.iconst 1, 1) := by decide +kernel
theorem dL_copy_14 : decode cL_copy 14 = .ok (.ireturn, 1) := by decide +kernel
theorem dL_copy_15 : decode cL_copy 15 = .ok (.astore_n 3, 1) := by decide +kernel
theorem dL_copy_16 : decode cL_copy 16 = .ok (.iconst 2, 1) := by decide +kernel
theorem dL_copy_17 : decode cL_copy 17 = .ok (.ireturn, 1) := by decide +kernel
theorem dL_copy_18 : decode cL_copy 18 = .ok (.iconst 0, 1) := by decide +kernel
theorem dL_copy_19 : decode cL_copy 19 = .ok (.ireturn, 1) := by decide +kernel
theorem wd_1965 : Cond.methodLink RL 117 yX11_copy ∈ lw_good := mm_wd 1965 (by decide +kernel) (by decide +kernel)
theorem wd_1966 : Cond.instanceMethod yX11_copy ∈ lw_good := mm_wd 1966 (by decide +kernel) (by decide +kernel)
theorem wd_1967 : Cond.selects RX11 yX11_copy yX11_copy ∈ lw_good := mm_wd 1967 (by decide +kernel) (by decide +kernel)
theorem wd_1968 : Cond.code yX11_copy cX11_copy 4 (some .int) ∈ lw_good := mm_wd 1968 (by decide +kernel) (by decide +kernel)
theorem tT_X11_copy : mm_T yX11_copy cX11_copy 4 (some .int) 1 := ⟨wd_1968, wd_142, by decide +kernel, by decide +kernel, by decide +kernel, by decide +kernel⟩
def F_L_copy (a0 : Option Nat) (a1 : Int32) (a2 : Option Nat) (h : MH) : Option (Int32 × MH) := cV h a0 11 (match F_X11_copy a0 a1 h with
  | none => none
  | some (.inl E, h4) => if E = "java/util/NoSuchElementException" then some ((1 : Int32), h4) else if E = "java/lang/IllegalStateException" then some ((2 : Int32), h4) else none
  | some (.inr v4, h4) => (sL h4 a2 (0 : Int32) (v4.toInt64)).bind fun h8 => some ((0 : Int32), h8))
set_option maxRecDepth 20000 in
set_option maxHeartbeats 4000000 in
theorem S_L_copy {d : Nat} (hd : 9 ≤ d) {a0 : Option Nat} {a1 : Int32} {a2 : Option Nat} {h : MH} {r : Int32} {hz : MH} (hK : F_L_copy a0 a1 a2 h = some (r, hz)) : mm_MW yL_copy cL_copy 4 (some .int) [(0, 9, 12, 19), (0, 9, 15, 45)] d [va_rf a0, .int a1, va_rf a2] h (.inr (some (.int r))) hz := by
  refine mD_ofV (by decide +kernel) (by simp [lg_sl, mm_crf, mm_cti, mm_ctl]) (fun V C => ?_)
  have hLV : lv_args 0 [va_rf a0, .int a1, va_rf a2] = [(0, va_rf a0), (1, .int a1), (2, va_rf a2)] := by simp [lv_args, mm_crf, mm_cti, mm_ctl]
  rw [hLV]
  unfold F_L_copy at hK
  obtain ⟨o4, hK⟩ := cV_some hK
  refine mD_aload_n C (pc := 0) 2 dL_copy_0 rfl ?_
  refine mD_iconst C (pc := 1) (v := (0 : Int32)) dL_copy_1 (by decide) ?_
  refine mD_aload_n C (pc := 2) 0 dL_copy_2 rfl ?_
  refine mD_iload_n C (pc := 3) 1 dL_copy_3 rfl ?_
  split at hK
  · cases hK
  · rename_i E h4 e4
    by_cases hE0 : E = "java/util/NoSuchElementException"
    · replace hK := mm_ip hE0 hK
      subst hE0
      refine mD_callVC C (pc := 4) (d1 := 8) (As := [.int a1]) (st := [.int (0 : Int32), va_rf a2]) (S_X11_copy (by omega) e4) tT_X11_copy o4 (Or.inr ⟨_, rfl, rfl⟩) wd_1965 wd_1966 wd_1967 (by omega) (by decide) rfl (by simp [mm_crf, mm_cti, mm_ctl]) rfl dL_copy_4 [] ⟨0, 9, 12, 19⟩ [⟨0, 9, 15, 45⟩] rfl (fun z hz => nomatch hz) (by decide) (by decide) wd_1425 wc_java_util_NoSuchElementException (ka := 3) (by decide) (Or.inl ⟨3, rfl, rfl, dL_copy_12⟩) ?_
      refine mD_iconst C (pc := 13) (v := (1 : Int32)) dL_copy_13 (by decide) ?_
      cases hK
      exact mD_iret C (pc := 14) rfl dL_copy_14 rfl rfl
    replace hK := mm_in hE0 hK
    by_cases hE1 : E = "java/lang/IllegalStateException"
    · replace hK := mm_ip hE1 hK
      subst hE1
      refine mD_callVC C (pc := 4) (d1 := 8) (As := [.int a1]) (st := [.int (0 : Int32), va_rf a2]) (S_X11_copy (by omega) e4) tT_X11_copy o4 (Or.inr ⟨_, rfl, rfl⟩) wd_1965 wd_1966 wd_1967 (by omega) (by decide) rfl (by simp [mm_crf, mm_cti, mm_ctl]) rfl dL_copy_4 [⟨0, 9, 12, 19⟩] ⟨0, 9, 15, 45⟩ [] rfl (by intro z hz; simp only [List.mem_cons, List.not_mem_nil, or_false] at hz; subst hz; exact Or.inr ⟨by decide, _, wd_1425, by decide⟩) (by decide) (by decide) wd_1536 wc_java_lang_IllegalStateException (ka := 3) (by decide) (Or.inl ⟨3, rfl, rfl, dL_copy_15⟩) ?_
      refine mD_iconst C (pc := 16) (v := (2 : Int32)) dL_copy_16 (by decide) ?_
      cases hK
      exact mD_iret C (pc := 17) rfl dL_copy_17 rfl rfl
    replace hK := mm_in hE1 hK
    cases hK
  · rename_i v4 h4 e4
    refine mD_callV C (pc := 4) (d1 := 8) (As := [.int a1]) (st := [.int (0 : Int32), va_rf a2]) (vk := (some (.int v4))) (S_X11_copy (by omega) e4) tT_X11_copy o4 (Or.inr ⟨_, rfl, rfl⟩) wd_1965 wd_1966 wd_1967 (by omega) (by decide) rfl (by simp [mm_crf, mm_cti, mm_ctl]) rfl dL_copy_4 ?_
    show V _ _ (.int v4 :: _) _
    refine mD_i2l C (pc := 7) dL_copy_7 ?_
    replace hK := mm_bd hK; obtain ⟨h8, e8, hK⟩ := hK
    refine mD_last C (pc := 8) dL_copy_8 e8 ?_
    refine mD_goto C (pc := 9) (tgt := 18) dL_copy_9 (by decide) ?_
    refine mD_iconst C (pc := 18) (v := (0 : Int32)) dL_copy_18 (by decide) ?_
    cases hK
    exact mD_iret C (pc := 19) rfl dL_copy_19 rfl rfl
theorem dL_image_0 : decode cL_image 0 = .ok (.aload_n 0, 1) := by decide +kernel
theorem dL_image_1 : decode cL_image 1 = .ok (.iload_n 1, 1) := by decide +kernel
theorem dL_image_2 : decode cL_image 2 = .ok (.invokevirtual 120, 3) := by decide +kernel
theorem dL_image_5 : decode cL_image 5 = .ok (.goto 6, 3) := by decide +kernel
theorem dL_image_8 : decode cL_image 8 = .ok (.astore_n 2, 1) := by decide +kernel
theorem dL_image_9 : decode cL_image 9 = .ok (.iconst 1, 1) := by decide +kernel
theorem dL_image_10 : decode cL_image 10 = .ok (.ireturn, 1) := by decide +kernel
theorem dL_image_11 : decode cL_image 11 = .ok (.iconst 0, 1) := by decide +kernel
theorem dL_image_12 : decode cL_image 12 = .ok (.ireturn, 1) := by decide +kernel
theorem wd_1972 : Cond.methodLink RL 120 yX11_image ∈ lw_good := mm_wd 1972 (by decide +kernel) (by decide +kernel)
theorem wd_1973 : Cond.instanceMethod yX11_image ∈ lw_good := mm_wd 1973 (by decide +kernel) (by decide +kernel)
theorem wd_1974 : Cond.selects RX11 yX11_image yX11_image ∈ lw_good := mm_wd 1974 (by decide +kernel) (by decide +kernel)
theorem wd_1975 : Cond.code yX11_image cX11_image 2 none ∈ lw_good := mm_wd 1975 (by decide +kernel) (by decide +kernel)
theorem tT_X11_image : mm_T yX11_image cX11_image 2 none 1 := ⟨wd_1975, wd_142, by decide +kernel, by decide +kernel, by decide +kernel, by decide +kernel⟩
def F_L_image (a0 : Option Nat) (a1 : Int32) (h : MH) : Option (Int32 × MH) := cV h a0 11 (match F_X11_image a0 a1 h with
  | none => none
  | some (.inl E, h2) => if E = "java/util/NoSuchElementException" then some ((1 : Int32), h2) else none
  | some (.inr _, h2) => some ((0 : Int32), h2))
set_option maxRecDepth 20000 in
set_option maxHeartbeats 4000000 in
theorem S_L_image {d : Nat} (hd : 8 ≤ d) {a0 : Option Nat} {a1 : Int32} {h : MH} {r : Int32} {hz : MH} (hK : F_L_image a0 a1 h = some (r, hz)) : mm_MW yL_image cL_image 3 (some .int) [(0, 5, 8, 19)] d [va_rf a0, .int a1] h (.inr (some (.int r))) hz := by
  refine mD_ofV (by decide +kernel) (by simp [lg_sl, mm_crf, mm_cti, mm_ctl]) (fun V C => ?_)
  have hLV : lv_args 0 [va_rf a0, .int a1] = [(0, va_rf a0), (1, .int a1)] := by simp [lv_args, mm_crf, mm_cti, mm_ctl]
  rw [hLV]
  unfold F_L_image at hK
  obtain ⟨o2, hK⟩ := cV_some hK
  refine mD_aload_n C (pc := 0) 0 dL_image_0 rfl ?_
  refine mD_iload_n C (pc := 1) 1 dL_image_1 rfl ?_
  split at hK
  · cases hK
  · rename_i E h2 e2
    by_cases hE0 : E = "java/util/NoSuchElementException"
    · replace hK := mm_ip hE0 hK
      subst hE0
      refine mD_callVC C (pc := 2) (d1 := 7) (As := [.int a1]) (st := []) (S_X11_image (by omega) e2) tT_X11_image o2 (Or.inr ⟨_, rfl, rfl⟩) wd_1972 wd_1973 wd_1974 (by omega) (by decide) rfl (by simp [mm_crf, mm_cti, mm_ctl]) rfl dL_image_2 [] ⟨0, 5, 8, 19⟩ [] rfl (fun z hz => nomatch hz) (by decide) (by decide) wd_1425 wc_java_util_NoSuchElementException (ka := 2) (by decide) (Or.inl ⟨2, rfl, rfl, dL_image_8⟩) ?_
      refine mD_iconst C (pc := 9) (v := (1 : Int32)) dL_image_9 (by decide) ?_
      cases hK
      exact mD_iret C (pc := 10) rfl dL_image_10 rfl rfl
    replace hK := mm_in hE0 hK
    cases hK
  · rename_i x2 h2 e2
    refine mD_callV C (pc := 2) (d1 := 7) (As := [.int a1]) (st := []) (vk := none) (S_X11_image (by omega) e2) tT_X11_image o2 (Or.inr ⟨_, rfl, rfl⟩) wd_1972 wd_1973 wd_1974 (by omega) (by decide) rfl (by simp [mm_crf, mm_cti, mm_ctl]) rfl dL_image_2 ?_
    show V _ _ [] _
    refine mD_goto C (pc := 5) (tgt := 11) dL_image_5 (by decide) ?_
    refine mD_iconst C (pc := 11) (v := (0 : Int32)) dL_image_11 (by decide) ?_
    cases hK
    exact mD_iret C (pc := 12) rfl dL_image_12 rfl rfl
theorem dL_restore_0 : decode cL_restore 0 = .ok (.aload_n 0, 1) := by decide +kernel
theorem dL_restore_1 : decode cL_restore 1 = .ok (.iload_n 1, 1) := by decide +kernel
theorem dL_restore_2 : decode cL_restore 2 = .ok (.invokevirtual 124, 3) := by decide +kernel
theorem dL_restore_5 : decode cL_restore 5 = .ok (.goto 9, 3) := by decide +kernel
theorem dL_restore_8 : decode cL_restore 8 = .ok (.astore_n 2, 1) := by decide +kernel
theorem dL_restore_9 : decode cL_restore 9 = .ok (.iconst 1, 1) := by decide +kernel
theorem dL_restore_10 : decode cL_restore 10 = .ok (.ireturn, 1) := by decide +kernel
theorem dL_restore_11 : decode cL_restore 11 = .ok (.astore_n 2, 1) := by decide +kernel
theorem dL_restore_12 : decode cL_restore 12 = .ok (.iconst 2, 1) := by decide +kernel
theorem dL_restore_13 : decode cL_restore 13 = .ok (.ireturn, 1) := by decide +kernel
theorem dL_restore_14 : decode cL_restore 14 = .ok (.iconst 0, 1) := by decide +kernel
theorem dL_restore_15 : decode cL_restore 15 = .ok (.ireturn, 1) := by decide +kernel
theorem wd_1988 : Cond.methodLink RL 124 yX11_restore ∈ lw_good := mm_wd 1988 (by decide +kernel) (by decide +kernel)
theorem wd_1989 : Cond.instanceMethod yX11_restore ∈ lw_good := mm_wd 1989 (by decide +kernel) (by decide +kernel)
theorem wd_1990 : Cond.selects RX11 yX11_restore yX11_restore ∈ lw_good := mm_wd 1990 (by decide +kernel) (by decide +kernel)
theorem wd_1991 : Cond.code yX11_restore cX11_restore 2 none ∈ lw_good := mm_wd 1991 (by decide +kernel) (by decide +kernel)
theorem tT_X11_restore : mm_T yX11_restore cX11_restore 2 none 1 := ⟨wd_1991, wd_142, by decide +kernel, by decide +kernel, by decide +kernel, by decide +kernel⟩
def F_L_restore (a0 : Option Nat) (a1 : Int32) (h : MH) : Option (Int32 × MH) := cV h a0 11 (match F_X11_restore a0 a1 h with
  | none => none
  | some (.inl E, h2) => if E = "java/util/NoSuchElementException" then some ((1 : Int32), h2) else if E = "java/lang/IllegalStateException" then some ((2 : Int32), h2) else none
  | some (.inr _, h2) => some ((0 : Int32), h2))
set_option maxRecDepth 20000 in
set_option maxHeartbeats 4000000 in
theorem S_L_restore {d : Nat} (hd : 8 ≤ d) {a0 : Option Nat} {a1 : Int32} {h : MH} {r : Int32} {hz : MH} (hK : F_L_restore a0 a1 h = some (r, hz)) : mm_MW yL_restore cL_restore 3 (some .int) [(0, 5, 8, 19), (0, 5, 11, 45)] d [va_rf a0, .int a1] h (.inr (some (.int r))) hz := by
  refine mD_ofV (by decide +kernel) (by simp [lg_sl, mm_crf, mm_cti, mm_ctl]) (fun V C => ?_)
  have hLV : lv_args 0 [va_rf a0, .int a1] = [(0, va_rf a0), (1, .int a1)] := by simp [lv_args, mm_crf, mm_cti, mm_ctl]
  rw [hLV]
  unfold F_L_restore at hK
  obtain ⟨o2, hK⟩ := cV_some hK
  refine mD_aload_n C (pc := 0) 0 dL_restore_0 rfl ?_
  refine mD_iload_n C (pc := 1) 1 dL_restore_1 rfl ?_
  split at hK
  · cases hK
  · rename_i E h2 e2
    by_cases hE0 : E = "java/util/NoSuchElementException"
    · replace hK := mm_ip hE0 hK
      subst hE0
      refine mD_callVC C (pc := 2) (d1 := 7) (As := [.int a1]) (st := []) (S_X11_restore (by omega) e2) tT_X11_restore o2 (Or.inr ⟨_, rfl, rfl⟩) wd_1988 wd_1989 wd_1990 (by omega) (by decide) rfl (by simp [mm_crf, mm_cti, mm_ctl]) rfl dL_restore_2 [] ⟨0, 5, 8, 19⟩ [⟨0, 5, 11, 45⟩] rfl (fun z hz => nomatch hz) (by decide) (by decide) wd_1425 wc_java_util_NoSuchElementException (ka := 2) (by decide) (Or.inl ⟨2, rfl, rfl, dL_restore_8⟩) ?_
      refine mD_iconst C (pc := 9) (v := (1 : Int32)) dL_restore_9 (by decide) ?_
      cases hK
      exact mD_iret C (pc := 10) rfl dL_restore_10 rfl rfl
    replace hK := mm_in hE0 hK
    by_cases hE1 : E = "java/lang/IllegalStateException"
    · replace hK := mm_ip hE1 hK
      subst hE1
      refine mD_callVC C (pc := 2) (d1 := 7) (As := [.int a1]) (st := []) (S_X11_restore (by omega) e2) tT_X11_restore o2 (Or.inr ⟨_, rfl, rfl⟩) wd_1988 wd_1989 wd_1990 (by omega) (by decide) rfl (by simp [mm_crf, mm_cti, mm_ctl]) rfl dL_restore_2 [⟨0, 5, 8, 19⟩] ⟨0, 5, 11, 45⟩ [] rfl (by intro z hz; simp only [List.mem_cons, List.not_mem_nil, or_false] at hz; subst hz; exact Or.inr ⟨by decide, _, wd_1425, by decide⟩) (by decide) (by decide) wd_1536 wc_java_lang_IllegalStateException (ka := 2) (by decide) (Or.inl ⟨2, rfl, rfl, dL_restore_11⟩) ?_
      refine mD_iconst C (pc := 12) (v := (2 : Int32)) dL_restore_12 (by decide) ?_
      cases hK
      exact mD_iret C (pc := 13) rfl dL_restore_13 rfl rfl
    replace hK := mm_in hE1 hK
    cases hK
  · rename_i x2 h2 e2
    refine mD_callV C (pc := 2) (d1 := 7) (As := [.int a1]) (st := []) (vk := none) (S_X11_restore (by omega) e2) tT_X11_restore o2 (Or.inr ⟨_, rfl, rfl⟩) wd_1988 wd_1989 wd_1990 (by omega) (by decide) rfl (by simp [mm_crf, mm_cti, mm_ctl]) rfl dL_restore_2 ?_
    show V _ _ [] _
    refine mD_goto C (pc := 5) (tgt := 14) dL_restore_5 (by decide) ?_
    refine mD_iconst C (pc := 14) (v := (0 : Int32)) dL_restore_14 (by decide) ?_
    cases hK
    exact mD_iret C (pc := 15) rfl dL_restore_15 rfl rfl
