theorem dJ0_coder_7d493_0 : decode cJ0_coder_7d493 0 = .ok (.getstatic 38, 3) := by decide +kernel
theorem dJ0_coder_7d493_3 : decode cJ0_coder_7d493 3 = .ok (.ifCond .eq 10, 3) := by decide +kernel
theorem dJ0_coder_7d493_6 : decode cJ0_coder_7d493 6 = .ok (.aload_n 0, 1) := by decide +kernel
theorem dJ0_coder_7d493_7 : decode cJ0_coder_7d493 7 = .ok (.getfield 15, 3) := by decide +kernel
theorem dJ0_coder_7d493_10 : decode cJ0_coder_7d493 10 = .ok (.goto 4, 3) := by decide +kernel
theorem dJ0_coder_7d493_13 : decode cJ0_coder_7d493 13 = .ok (.iconst 1, 1) := by decide +kernel
theorem dJ0_coder_7d493_14 : decode cJ0_coder_7d493 14 = .ok (.ireturn, 1) := by decide +kernel
def F_J0_coder_7d493_14 (s0 : Int32) (h : MH) : Option (Int32 × MH) := rB s0 h
set_option maxRecDepth 20000 in
set_option maxHeartbeats 4000000 in
theorem w_J0_coder_7d493_14 {d : Nat} {V : Nat → List (Nat × Value) → List Value → MH → Prop} {r : Int32} {hz : MH} (hd : 1 ≤ d) (C : mm_C d yJ0_coder_7d493 cJ0_coder_7d493 1 (some .byte) (.inr (some (.int r))) hz V) (s0 : Int32) (h : MH) (hK : F_J0_coder_7d493_14 s0 h = some (r, hz)) : V 14 [] [.int s0] h := by
  unfold F_J0_coder_7d493_14 at hK
  replace hK := rB_some hK; obtain ⟨hv14, hK⟩ := hK
  cases hK
  exact mm_zret C (pc := 14) rfl (mm_nrB hv14) dJ0_coder_7d493_14 rfl rfl
def F_J0_coder_7d493 (a0 : Option Nat) (h : MH) : Option (Int32 × MH) := if (1 : Int32) = 0 then (F_J0_coder_7d493_14 (1 : Int32) h) else ((gI h a0 13 1).bind fun v7 => F_J0_coder_7d493_14 v7 h)
set_option maxRecDepth 20000 in
set_option maxHeartbeats 4000000 in
theorem S_J0_coder_7d493 {d : Nat} (hd : 1 ≤ d) {a0 : Option Nat} {h : MH} {r : Int32} {hz : MH} (hK : F_J0_coder_7d493 a0 h = some (r, hz)) : mm_M yJ0_coder_7d493 cJ0_coder_7d493 1 (some .byte) d [va_rf a0] h (.inr (some (.int r))) hz := by
  refine mm_ofV (by decide +kernel) (by simp [lg_sl, mm_crf, mm_cti, mm_ctl]) (fun V C => ?_)
  rw [show lv_args 0 [va_rf a0] = [(0, va_rf a0)] by simp [lv_args, mm_crf, mm_cti, mm_ctl]]
  unfold F_J0_coder_7d493 at hK
  refine mm_getsC C (pc := 0) wd_621 dJ0_coder_7d493_0 ?_
  refine mm_if_eq C (pc := 3) (tgt := 13) dJ0_coder_7d493_3 (by decide) (fun hc => ?_) (fun hc => ?_)
  · replace hK := mm_ip hc hK
    refine mm_iconst C (pc := 13) (v := (1 : Int32)) dJ0_coder_7d493_13 (by decide) ?_
    refine mm_sub C [] rfl ?_
    exact w_J0_coder_7d493_14 hd C _ _ hK
  · replace hK := mm_in hc hK
    refine mm_aload_n C (pc := 6) 0 dJ0_coder_7d493_6 rfl ?_
    replace hK := mm_bd hK; obtain ⟨v7, e7, hK⟩ := hK
    refine mm_getSi C (pc := 7) wd_703 dJ0_coder_7d493_7 e7 ?_
    refine mm_goto C (pc := 10) (tgt := 14) dJ0_coder_7d493_10 (by decide) ?_
    refine mm_sub C [] rfl ?_
    exact w_J0_coder_7d493_14 hd C _ _ hK
theorem dJ0_length_8abf5_0 : decode cJ0_length_8abf5 0 = .ok (.aload_n 0, 1) := by decide +kernel
theorem dJ0_length_8abf5_1 : decode cJ0_length_8abf5 1 = .ok (.getfield 9, 3) := by decide +kernel
theorem dJ0_length_8abf5_4 : decode cJ0_length_8abf5 4 = .ok (.arraylength, 1) := by decide +kernel
theorem dJ0_length_8abf5_5 : decode cJ0_length_8abf5 5 = .ok (.aload_n 0, 1) := by decide +kernel
theorem dJ0_length_8abf5_6 : decode cJ0_length_8abf5 6 = .ok (.invokevirtual 335, 3) := by decide +kernel
theorem dJ0_length_8abf5_9 : decode cJ0_length_8abf5 9 = .ok (.ishr, 1) := by decide +kernel
theorem dJ0_length_8abf5_10 : decode cJ0_length_8abf5 10 = .ok (.ireturn, 1) := by decide +kernel
theorem wd_702 : Cond.fieldLink RJ0 9 "java/lang/String" "value" "[B" ∈ lw_good := mm_wd 702 (by decide +kernel) (by decide +kernel)
theorem wd_620 : Cond.code yJ0_coder_7d493 cJ0_coder_7d493 1 (some .byte) ∈ lw_good := mm_wd 620 (by decide +kernel) (by decide +kernel)
theorem wd_161 : Cond.initialized RJ0 ∈ lw_good := mm_wd 161 (by decide +kernel) (by decide +kernel)
theorem tT_J0_coder_7d493 : mm_T yJ0_coder_7d493 cJ0_coder_7d493 1 (some .byte) 0 := ⟨wd_620, wd_161, by decide +kernel, by decide +kernel, by decide +kernel, by decide +kernel⟩
theorem wd_617 : Cond.methodLink RJ0 335 yJ0_coder_7d493 ∈ lw_good := mm_wd 617 (by decide +kernel) (by decide +kernel)
theorem wd_618 : Cond.instanceMethod yJ0_coder_7d493 ∈ lw_good := mm_wd 618 (by decide +kernel) (by decide +kernel)
theorem wd_619 : Cond.selects RJ0 yJ0_coder_7d493 yJ0_coder_7d493 ∈ lw_good := mm_wd 619 (by decide +kernel) (by decide +kernel)
def F_J0_length_8abf5 (a0 : Option Nat) (h : MH) : Option (Int32 × MH) := (gR h a0 13 0).bind fun v1 => (aNt h v1 2).bind fun v4 => mm_b2 (cV h a0 13 (F_J0_coder_7d493 a0 h)) fun v6 h6 => some ((v4 >>> (v6 &&& 31)), h6)
set_option maxRecDepth 20000 in
set_option maxHeartbeats 4000000 in
theorem S_J0_length_8abf5 {d : Nat} (hd : 2 ≤ d) {a0 : Option Nat} {h : MH} {r : Int32} {hz : MH} (hK : F_J0_length_8abf5 a0 h = some (r, hz)) : mm_M yJ0_length_8abf5 cJ0_length_8abf5 1 (some .int) d [va_rf a0] h (.inr (some (.int r))) hz := by
  refine mm_ofV (by decide +kernel) (by simp [lg_sl, mm_crf, mm_cti, mm_ctl]) (fun V C => ?_)
  rw [show lv_args 0 [va_rf a0] = [(0, va_rf a0)] by simp [lv_args, mm_crf, mm_cti, mm_ctl]]
  unfold F_J0_length_8abf5 at hK
  refine mm_aload_n C (pc := 0) 0 dJ0_length_8abf5_0 rfl ?_
  replace hK := mm_bd hK; obtain ⟨v1, e1, hK⟩ := hK
  refine mm_getSr C (pc := 1) wd_702 dJ0_length_8abf5_1 e1 ?_
  replace hK := mm_bd hK; obtain ⟨v4, e4, hK⟩ := hK
  refine mm_alenB C (pc := 4) dJ0_length_8abf5_4 e4 ?_
  refine mm_aload_n C (pc := 5) 0 dJ0_length_8abf5_5 rfl ?_
  replace hK := mm_b2s hK; obtain ⟨v6, h6, e6, hK⟩ := hK
  obtain ⟨o6, e6⟩ := cV_some e6
  refine mm_callV C (pc := 6) (d1 := 1) (As := []) (st := [.int v4]) (vk := (some (.int v6))) ((S_J0_coder_7d493 (by omega)) e6) tT_J0_coder_7d493 o6 (Or.inl ⟨rfl, rfl⟩) wd_617 wd_618 wd_619 (by omega) (by decide) rfl (by simp [mm_crf, mm_cti, mm_ctl]) rfl dJ0_length_8abf5_6 ?_
  show V _ _ (.int v6 :: _) _
  refine mm_ishr C (pc := 9) dJ0_length_8abf5_9 ?_
  cases hK
  exact mm_iret C (pc := 10) rfl dJ0_length_8abf5_10 rfl rfl
theorem dJ1_canEncode_9a6ad_0 : decode cJ1_canEncode_9a6ad 0 = .ok (.iload_n 0, 1) := by decide +kernel
theorem dJ1_canEncode_9a6ad_1 : decode cJ1_canEncode_9a6ad 1 = .ok (.ifCond .lt 14, 3) := by decide +kernel
theorem dJ1_canEncode_9a6ad_4 : decode cJ1_canEncode_9a6ad 4 = .ok (.iload_n 0, 1) := by decide +kernel
theorem dJ1_canEncode_9a6ad_5 : decode cJ1_canEncode_9a6ad 5 = .ok (.sipush 255, 3) := by decide +kernel
theorem dJ1_canEncode_9a6ad_8 : decode cJ1_canEncode_9a6ad 8 = .ok (.if_icmp .gt 7, 3) := by decide +kernel
theorem dJ1_canEncode_9a6ad_11 : decode cJ1_canEncode_9a6ad 11 = .ok (.iconst 1, 1) := by decide +kernel
theorem dJ1_canEncode_9a6ad_12 : decode cJ1_canEncode_9a6ad 12 = .ok (.goto 4, 3) := by decide +kernel
theorem dJ1_canEncode_9a6ad_15 : decode cJ1_canEncode_9a6ad 15 = .ok (.iconst 0, 1) := by decide +kernel
theorem dJ1_canEncode_9a6ad_16 : decode cJ1_canEncode_9a6ad 16 = .ok (.ireturn, 1) := by decide +kernel
def F_J1_canEncode_9a6ad_16 (s0 : Int32) (h : MH) : Option (Int32 × MH) := rZ s0 h
set_option maxRecDepth 20000 in
set_option maxHeartbeats 4000000 in
theorem w_J1_canEncode_9a6ad_16 {d : Nat} {V : Nat → List (Nat × Value) → List Value → MH → Prop} {r : Int32} {hz : MH} (hd : 1 ≤ d) (C : mm_C d yJ1_canEncode_9a6ad cJ1_canEncode_9a6ad 1 (some .boolean) (.inr (some (.int r))) hz V) (s0 : Int32) (h : MH) (hK : F_J1_canEncode_9a6ad_16 s0 h = some (r, hz)) : V 16 [] [.int s0] h := by
  unfold F_J1_canEncode_9a6ad_16 at hK
  replace hK := rZ_some hK; obtain ⟨hv16, hK⟩ := hK
  cases hK
  exact mm_zret C (pc := 16) rfl (mm_nrZ hv16) dJ1_canEncode_9a6ad_16 rfl rfl
def F_J1_canEncode_9a6ad_15 (h : MH) : Option (Int32 × MH) := F_J1_canEncode_9a6ad_16 (0 : Int32) h
set_option maxRecDepth 20000 in
set_option maxHeartbeats 4000000 in
theorem w_J1_canEncode_9a6ad_15 {d : Nat} {V : Nat → List (Nat × Value) → List Value → MH → Prop} {r : Int32} {hz : MH} (hd : 1 ≤ d) (C : mm_C d yJ1_canEncode_9a6ad cJ1_canEncode_9a6ad 1 (some .boolean) (.inr (some (.int r))) hz V) (h : MH) (hK : F_J1_canEncode_9a6ad_15  h = some (r, hz)) : V 15 [] [] h := by
  unfold F_J1_canEncode_9a6ad_15 at hK
  refine mm_iconst C (pc := 15) (v := (0 : Int32)) dJ1_canEncode_9a6ad_15 (by decide) ?_
  exact w_J1_canEncode_9a6ad_16 hd C _ _ hK
def F_J1_canEncode_9a6ad (a0 : Int32) (h : MH) : Option (Int32 × MH) := if a0 < 0 then (F_J1_canEncode_9a6ad_15 h) else (if (255 : Int32) < a0 then (F_J1_canEncode_9a6ad_15 h) else (F_J1_canEncode_9a6ad_16 (1 : Int32) h))
set_option maxRecDepth 20000 in
set_option maxHeartbeats 4000000 in
theorem S_J1_canEncode_9a6ad {d : Nat} (hd : 1 ≤ d) {a0 : Int32} {h : MH} {r : Int32} {hz : MH} (hK : F_J1_canEncode_9a6ad a0 h = some (r, hz)) : mm_M yJ1_canEncode_9a6ad cJ1_canEncode_9a6ad 1 (some .boolean) d [.int a0] h (.inr (some (.int r))) hz := by
  refine mm_ofV (by decide +kernel) (by simp [lg_sl, mm_crf, mm_cti, mm_ctl]) (fun V C => ?_)
  rw [show lv_args 0 [.int a0] = [(0, .int a0)] by simp [lv_args, mm_crf, mm_cti, mm_ctl]]
  unfold F_J1_canEncode_9a6ad at hK
  refine mm_iload_n C (pc := 0) 0 dJ1_canEncode_9a6ad_0 rfl ?_
  refine mm_if_lt C (pc := 1) (tgt := 15) dJ1_canEncode_9a6ad_1 (by decide) (fun hc => ?_) (fun hc => ?_)
  · replace hK := mm_ip hc hK
    refine mm_sub C [] rfl ?_
    exact w_J1_canEncode_9a6ad_15 hd C _ hK
  · replace hK := mm_in hc hK
    refine mm_iload_n C (pc := 4) 0 dJ1_canEncode_9a6ad_4 rfl ?_
    refine mm_sipush C (pc := 5) (v := (255 : Int32)) dJ1_canEncode_9a6ad_5 (by decide) ?_
    refine mm_icmp_gt C (pc := 8) (tgt := 15) dJ1_canEncode_9a6ad_8 (by decide) (fun hc => ?_) (fun hc => ?_)
    · replace hK := mm_ip hc hK
      refine mm_sub C [] rfl ?_
      exact w_J1_canEncode_9a6ad_15 hd C _ hK
    · replace hK := mm_in hc hK
      refine mm_iconst C (pc := 11) (v := (1 : Int32)) dJ1_canEncode_9a6ad_11 (by decide) ?_
      refine mm_goto C (pc := 12) (tgt := 16) dJ1_canEncode_9a6ad_12 (by decide) ?_
      refine mm_sub C [] rfl ?_
      exact w_J1_canEncode_9a6ad_16 hd C _ _ hK
theorem dJ1_indexOfChar_4cfef_0 : decode cJ1_indexOfChar_4cfef 0 = .ok (.iload_n 1, 1) := by decide +kernel
theorem dJ1_indexOfChar_4cfef_1 : decode cJ1_indexOfChar_4cfef 1 = .ok (.i2b, 1) := by decide +kernel
theorem dJ1_indexOfChar_4cfef_2 : decode cJ1_indexOfChar_4cfef 2 = .ok (.istore 4, 2) := by decide +kernel
theorem dJ1_indexOfChar_4cfef_4 : decode cJ1_indexOfChar_4cfef 4 = .ok (.iload_n 2, 1) := by decide +kernel
theorem dJ1_indexOfChar_4cfef_5 : decode cJ1_indexOfChar_4cfef 5 = .ok (.istore 5, 2) := by decide +kernel
theorem dJ1_indexOfChar_4cfef_7 : decode cJ1_indexOfChar_4cfef 7 = .ok (.iload 5, 2) := by decide +kernel
theorem dJ1_indexOfChar_4cfef_9 : decode cJ1_indexOfChar_4cfef 9 = .ok (.iload_n 3, 1) := by decide +kernel
theorem dJ1_indexOfChar_4cfef_10 : decode cJ1_indexOfChar_4cfef 10 = .ok (.if_icmp .ge 21, 3) := by decide +kernel
theorem dJ1_indexOfChar_4cfef_13 : decode cJ1_indexOfChar_4cfef 13 = .ok (.aload_n 0, 1) := by decide +kernel
theorem dJ1_indexOfChar_4cfef_14 : decode cJ1_indexOfChar_4cfef 14 = .ok (.iload 5, 2) := by decide +kernel
theorem dJ1_indexOfChar_4cfef_16 : decode cJ1_indexOfChar_4cfef 16 = .ok (.baload, 1) := by decide +kernel
theorem dJ1_indexOfChar_4cfef_17 : decode cJ1_indexOfChar_4cfef 17 = .ok (.iload 4, 2) := by decide +kernel
theorem dJ1_indexOfChar_4cfef_19 : decode cJ1_indexOfChar_4cfef 19 = .ok (.if_icmp .ne 6, 3) := by decide +kernel
theorem dJ1_indexOfChar_4cfef_22 : decode cJ1_indexOfChar_4cfef 22 = .ok (.iload 5, 2) := by decide +kernel
theorem dJ1_indexOfChar_4cfef_24 : decode cJ1_indexOfChar_4cfef 24 = .ok (.ireturn, 1) := by decide +kernel
theorem dJ1_indexOfChar_4cfef_25 : decode cJ1_indexOfChar_4cfef 25 = .ok (.iinc 5 1, 3) := by decide +kernel
theorem dJ1_indexOfChar_4cfef_28 : decode cJ1_indexOfChar_4cfef 28 = .ok (.goto (-21), 3) := by decide +kernel
theorem dJ1_indexOfChar_4cfef_31 : decode cJ1_indexOfChar_4cfef 31 = .ok (.iconst (-1), 1) := by decide +kernel
theorem dJ1_indexOfChar_4cfef_32 : decode cJ1_indexOfChar_4cfef 32 = .ok (.ireturn, 1) := by decide +kernel
def F_J1_indexOfChar_4cfef_7 : Nat → Option Nat → Int32 → Int32 → Int32 → MH → Option (Int32 × MH)
  | 0 => fun _ _ _ _ _ => none
  | n + 1 => fun l0 l3 l4 l5 h => if l3 ≤ l5 then (some (((-1) : Int32), h)) else ((aI h l0 2 l5).bind fun v16 => if v16 = l4 then (some (l5, h)) else (F_J1_indexOfChar_4cfef_7 n l0 l3 l4 (l5 + (1 : Int32)) h))
set_option maxRecDepth 20000 in
set_option maxHeartbeats 4000000 in
theorem w_J1_indexOfChar_4cfef_7 {d : Nat} {V : Nat → List (Nat × Value) → List Value → MH → Prop} {r : Int32} {hz : MH} (hd : 1 ≤ d) (C : mm_C d yJ1_indexOfChar_4cfef cJ1_indexOfChar_4cfef 6 (some .int) (.inr (some (.int r))) hz V) : ∀ (n : Nat) (l0 : Option Nat) (l3 : Int32) (l4 : Int32) (l5 : Int32) (h : MH), F_J1_indexOfChar_4cfef_7 n l0 l3 l4 l5 h = some (r, hz) → V 7 [(0, va_rf l0), (3, .int l3), (4, .int l4), (5, .int l5)] [] h := by
  intro n
  induction n with
  | zero => intro l0 l3 l4 l5 h hK; cases hK
  | succ n ih =>
    intro l0 l3 l4 l5 h hK
    replace hK : (if l3 ≤ l5 then (some (((-1) : Int32), h)) else ((aI h l0 2 l5).bind fun v16 => if v16 = l4 then (some (l5, h)) else (F_J1_indexOfChar_4cfef_7 n l0 l3 l4 (l5 + (1 : Int32)) h))) = some (r, hz) := hK
    refine mm_iload C (pc := 7) 3 dJ1_indexOfChar_4cfef_7 rfl ?_
    refine mm_iload_n C (pc := 9) 1 dJ1_indexOfChar_4cfef_9 rfl ?_
    refine mm_icmp_ge C (pc := 10) (tgt := 31) dJ1_indexOfChar_4cfef_10 (by decide) (fun hc => ?_) (fun hc => ?_)
    · replace hK := mm_ip hc hK
      refine mm_iconst C (pc := 31) (v := ((-1) : Int32)) dJ1_indexOfChar_4cfef_31 (by decide) ?_
      cases hK
      exact mm_iret C (pc := 32) rfl dJ1_indexOfChar_4cfef_32 rfl rfl
    · replace hK := mm_in hc hK
      refine mm_aload_n C (pc := 13) 0 dJ1_indexOfChar_4cfef_13 rfl ?_
      refine mm_iload C (pc := 14) 3 dJ1_indexOfChar_4cfef_14 rfl ?_
      replace hK := mm_bd hK; obtain ⟨v16, e16, hK⟩ := hK
      refine mm_bald C (pc := 16) dJ1_indexOfChar_4cfef_16 e16 ?_
      refine mm_iload C (pc := 17) 2 dJ1_indexOfChar_4cfef_17 rfl ?_
      refine mm_icmp_ne C (pc := 19) (tgt := 25) dJ1_indexOfChar_4cfef_19 (by decide) (fun hc => ?_) (fun hc => ?_)
      · replace hK := mm_in hc hK
        refine mm_iinc C (pc := 25) (v := (l5 + (1 : Int32))) (lv' := [(5, .int (l5 + (1 : Int32))), (0, va_rf l0), (3, .int l3), (4, .int l4)]) 3 dJ1_indexOfChar_4cfef_25 rfl rfl (by decide) rfl ?_
        refine mm_goto C (pc := 28) (tgt := 7) dJ1_indexOfChar_4cfef_28 (by decide) ?_
        refine mm_sub C [1, 2, 3, 0] rfl ?_
        exact ih _ _ _ _ _ hK
      · replace hK := mm_ip hc hK
        refine mm_iload C (pc := 22) 3 dJ1_indexOfChar_4cfef_22 rfl ?_
        cases hK
        exact mm_iret C (pc := 24) rfl dJ1_indexOfChar_4cfef_24 rfl rfl
def F_J1_indexOfChar_4cfef (a0 : Option Nat) (a1 : Int32) (a2 : Int32) (a3 : Int32) (h : MH) : Option (Int32 × MH) := F_J1_indexOfChar_4cfef_7 mm_N a0 a3 (a1.toInt8.toInt32) a2 h
set_option maxRecDepth 20000 in
set_option maxHeartbeats 4000000 in
theorem S_J1_indexOfChar_4cfef {d : Nat} (hd : 1 ≤ d) {a0 : Option Nat} {a1 : Int32} {a2 : Int32} {a3 : Int32} {h : MH} {r : Int32} {hz : MH} (hK : F_J1_indexOfChar_4cfef a0 a1 a2 a3 h = some (r, hz)) : mm_M yJ1_indexOfChar_4cfef cJ1_indexOfChar_4cfef 6 (some .int) d [va_rf a0, .int a1, .int a2, .int a3] h (.inr (some (.int r))) hz := by
  refine mm_ofV (by decide +kernel) (by simp [lg_sl, mm_crf, mm_cti, mm_ctl]) (fun V C => ?_)
  rw [show lv_args 0 [va_rf a0, .int a1, .int a2, .int a3] = [(0, va_rf a0), (1, .int a1), (2, .int a2), (3, .int a3)] by simp [lv_args, mm_crf, mm_cti, mm_ctl]]
  unfold F_J1_indexOfChar_4cfef at hK
  refine mm_iload_n C (pc := 0) 1 dJ1_indexOfChar_4cfef_0 rfl ?_
  refine mm_i2b C (pc := 1) dJ1_indexOfChar_4cfef_1 ?_
  refine mm_istore C (pc := 2) (i := 4) (lv' := [(4, .int (a1.toInt8.toInt32)), (0, va_rf a0), (1, .int a1), (2, .int a2), (3, .int a3)]) dJ1_indexOfChar_4cfef_2 (by decide) rfl ?_
  refine mm_iload_n C (pc := 4) 3 dJ1_indexOfChar_4cfef_4 rfl ?_
  refine mm_istore C (pc := 5) (i := 5) (lv' := [(5, .int a2), (4, .int (a1.toInt8.toInt32)), (0, va_rf a0), (1, .int a1), (2, .int a2), (3, .int a3)]) dJ1_indexOfChar_4cfef_5 (by decide) rfl ?_
  refine mm_sub C [2, 5, 1, 0] rfl ?_
  exact w_J1_indexOfChar_4cfef_7 hd C _ _ _ _ _ _ hK
theorem dJ1_indexOf_4cfef_0 : decode cJ1_indexOf_4cfef 0 = .ok (.iload_n 1, 1) := by decide +kernel
theorem dJ1_indexOf_4cfef_1 : decode cJ1_indexOf_4cfef 1 = .ok (.invokestatic 88, 3) := by decide +kernel
theorem dJ1_indexOf_4cfef_4 : decode cJ1_indexOf_4cfef 4 = .ok (.ifCond .ne 5, 3) := by decide +kernel
theorem dJ1_indexOf_4cfef_7 : decode cJ1_indexOf_4cfef 7 = .ok (.iconst (-1), 1) := by decide +kernel
theorem dJ1_indexOf_4cfef_8 : decode cJ1_indexOf_4cfef 8 = .ok (.ireturn, 1) := by decide +kernel
theorem dJ1_indexOf_4cfef_9 : decode cJ1_indexOf_4cfef 9 = .ok (.iload_n 2, 1) := by decide +kernel
theorem dJ1_indexOf_4cfef_10 : decode cJ1_indexOf_4cfef 10 = .ok (.iconst 0, 1) := by decide +kernel
theorem dJ1_indexOf_4cfef_11 : decode cJ1_indexOf_4cfef 11 = .ok (.invokestatic 92, 3) := by decide +kernel
theorem dJ1_indexOf_4cfef_14 : decode cJ1_indexOf_4cfef 14 = .ok (.istore_n 2, 1) := by decide +kernel
theorem dJ1_indexOf_4cfef_15 : decode cJ1_indexOf_4cfef 15 = .ok (.iload_n 3, 1) := by decide +kernel
theorem dJ1_indexOf_4cfef_16 : decode cJ1_indexOf_4cfef 16 = .ok (.aload_n 0, 1) := by decide +kernel
theorem dJ1_indexOf_4cfef_17 : decode cJ1_indexOf_4cfef 17 = .ok (.arraylength, 1) := by decide +kernel
theorem dJ1_indexOf_4cfef_18 : decode cJ1_indexOf_4cfef 18 = .ok (.invokestatic 38, 3) := by decide +kernel
theorem dJ1_indexOf_4cfef_21 : decode cJ1_indexOf_4cfef 21 = .ok (.istore_n 3, 1) := by decide +kernel
theorem dJ1_indexOf_4cfef_22 : decode cJ1_indexOf_4cfef 22 = .ok (.iload_n 2, 1) := by decide +kernel
theorem dJ1_indexOf_4cfef_23 : decode cJ1_indexOf_4cfef 23 = .ok (.iload_n 3, 1) := by decide +kernel
theorem dJ1_indexOf_4cfef_24 : decode cJ1_indexOf_4cfef 24 = .ok (.if_icmp .lt 5, 3) := by decide +kernel
theorem dJ1_indexOf_4cfef_27 : decode cJ1_indexOf_4cfef 27 = .ok (.iconst (-1), 1) := by decide +kernel
theorem dJ1_indexOf_4cfef_28 : decode cJ1_indexOf_4cfef 28 = .ok (.ireturn, 1) := by decide +kernel
theorem dJ1_indexOf_4cfef_29 : decode cJ1_indexOf_4cfef 29 = .ok (.aload_n 0, 1) := by decide +kernel
theorem dJ1_indexOf_4cfef_30 : decode cJ1_indexOf_4cfef 30 = .ok (.iload_n 1, 1) := by decide +kernel
theorem dJ1_indexOf_4cfef_31 : decode cJ1_indexOf_4cfef 31 = .ok (.iload_n 2, 1) := by decide +kernel
theorem dJ1_indexOf_4cfef_32 : decode cJ1_indexOf_4cfef 32 = .ok (.iload_n 3, 1) := by decide +kernel
theorem dJ1_indexOf_4cfef_33 : decode cJ1_indexOf_4cfef 33 = .ok (.invokestatic 95, 3) := by decide +kernel
theorem dJ1_indexOf_4cfef_36 : decode cJ1_indexOf_4cfef 36 = .ok (.ireturn, 1) := by decide +kernel
theorem wd_1211 : Cond.code yJ1_canEncode_9a6ad cJ1_canEncode_9a6ad 1 (some .boolean) ∈ lw_good := mm_wd 1211 (by decide +kernel) (by decide +kernel)
theorem wd_168 : Cond.initialized RJ1 ∈ lw_good := mm_wd 168 (by decide +kernel) (by decide +kernel)
theorem tT_J1_canEncode_9a6ad : mm_T yJ1_canEncode_9a6ad cJ1_canEncode_9a6ad 1 (some .boolean) 1 := ⟨wd_1211, wd_168, by decide +kernel, by decide +kernel, by decide +kernel, by decide +kernel⟩
theorem wd_1209 : Cond.methodLink RJ1 88 yJ1_canEncode_9a6ad ∈ lw_good := mm_wd 1209 (by decide +kernel) (by decide +kernel)
theorem wd_1210 : Cond.static yJ1_canEncode_9a6ad ∈ lw_good := mm_wd 1210 (by decide +kernel) (by decide +kernel)
theorem wd_1212 : Cond.methodLink RJ1 92 yJ9_max_7cf53 ∈ lw_good := mm_wd 1212 (by decide +kernel) (by decide +kernel)
theorem wd_1213 : Cond.methodLink RJ1 38 yJ9_min_7cf53 ∈ lw_good := mm_wd 1213 (by decide +kernel) (by decide +kernel)
theorem wd_1216 : Cond.code yJ1_indexOfChar_4cfef cJ1_indexOfChar_4cfef 6 (some .int) ∈ lw_good := mm_wd 1216 (by decide +kernel) (by decide +kernel)
theorem tT_J1_indexOfChar_4cfef : mm_T yJ1_indexOfChar_4cfef cJ1_indexOfChar_4cfef 6 (some .int) 4 := ⟨wd_1216, wd_168, by decide +kernel, by decide +kernel, by decide +kernel, by decide +kernel⟩
theorem wd_1214 : Cond.methodLink RJ1 95 yJ1_indexOfChar_4cfef ∈ lw_good := mm_wd 1214 (by decide +kernel) (by decide +kernel)
theorem wd_1215 : Cond.static yJ1_indexOfChar_4cfef ∈ lw_good := mm_wd 1215 (by decide +kernel) (by decide +kernel)
def F_J1_indexOf_4cfef (a0 : Option Nat) (a1 : Int32) (a2 : Int32) (a3 : Int32) (h : MH) : Option (Int32 × MH) := mm_b2 (F_J1_canEncode_9a6ad a1 h) fun v1 h1 => if v1 = 0 then (some (((-1) : Int32), h1)) else ((aNt h1 a0 2).bind fun v17 => if (mxI a2 (0 : Int32)) < (mnI a3 v17) then (mm_b2 (F_J1_indexOfChar_4cfef a0 a1 (mxI a2 (0 : Int32)) (mnI a3 v17) h1) fun v33 h33 => some (v33, h33)) else (some (((-1) : Int32), h1)))
set_option maxRecDepth 20000 in
set_option maxHeartbeats 4000000 in
theorem S_J1_indexOf_4cfef {d : Nat} (hd : 2 ≤ d) {a0 : Option Nat} {a1 : Int32} {a2 : Int32} {a3 : Int32} {h : MH} {r : Int32} {hz : MH} (hK : F_J1_indexOf_4cfef a0 a1 a2 a3 h = some (r, hz)) : mm_M yJ1_indexOf_4cfef cJ1_indexOf_4cfef 4 (some .int) d [va_rf a0, .int a1, .int a2, .int a3] h (.inr (some (.int r))) hz := by
  refine mm_ofV (by decide +kernel) (by simp [lg_sl, mm_crf, mm_cti, mm_ctl]) (fun V C => ?_)
  rw [show lv_args 0 [va_rf a0, .int a1, .int a2, .int a3] = [(0, va_rf a0), (1, .int a1), (2, .int a2), (3, .int a3)] by simp [lv_args, mm_crf, mm_cti, mm_ctl]]
  unfold F_J1_indexOf_4cfef at hK
  refine mm_iload_n C (pc := 0) 1 dJ1_indexOf_4cfef_0 rfl ?_
  replace hK := mm_b2s hK; obtain ⟨v1, h1, e1, hK⟩ := hK
  refine mm_callS C (pc := 1) (d1 := 1) (As := [.int a1]) (st := []) (vk := (some (.int v1))) ((S_J1_canEncode_9a6ad (by omega)) e1) tT_J1_canEncode_9a6ad wd_1209 wd_1210 (by omega) (by decide) rfl (by simp [mm_crf, mm_cti, mm_ctl]) rfl dJ1_indexOf_4cfef_1 ?_
  show V _ _ (.int v1 :: _) _
  refine mm_if_ne C (pc := 4) (tgt := 9) dJ1_indexOf_4cfef_4 (by decide) (fun hc => ?_) (fun hc => ?_)
  · replace hK := mm_in hc hK
    refine mm_iload_n C (pc := 9) 2 dJ1_indexOf_4cfef_9 rfl ?_
    refine mm_iconst C (pc := 10) (v := (0 : Int32)) dJ1_indexOf_4cfef_10 (by decide) ?_
    refine mm_mmax C (pc := 11) wd_1212 wd_412 wd_152 wd_413 (by omega) (by simp [mm_crf, mm_cti, mm_ctl]) dJ1_indexOf_4cfef_11 ?_
    refine mm_istore_n C (pc := 14) (i := 2) (lv' := [(2, .int (mxI a2 (0 : Int32))), (0, va_rf a0), (1, .int a1), (3, .int a3)]) dJ1_indexOf_4cfef_14 rfl (by decide) rfl ?_
    refine mm_iload_n C (pc := 15) 3 dJ1_indexOf_4cfef_15 rfl ?_
    refine mm_aload_n C (pc := 16) 1 dJ1_indexOf_4cfef_16 rfl ?_
    replace hK := mm_bd hK; obtain ⟨v17, e17, hK⟩ := hK
    refine mm_alenB C (pc := 17) dJ1_indexOf_4cfef_17 e17 ?_
    refine mm_mmin C (pc := 18) wd_1213 wd_409 wd_152 wd_410 (by omega) (by simp [mm_crf, mm_cti, mm_ctl]) dJ1_indexOf_4cfef_18 ?_
    refine mm_istore_n C (pc := 21) (i := 3) (lv' := [(3, .int (mnI a3 v17)), (2, .int (mxI a2 (0 : Int32))), (0, va_rf a0), (1, .int a1)]) dJ1_indexOf_4cfef_21 rfl (by decide) rfl ?_
    refine mm_iload_n C (pc := 22) 1 dJ1_indexOf_4cfef_22 rfl ?_
    refine mm_iload_n C (pc := 23) 0 dJ1_indexOf_4cfef_23 rfl ?_
    refine mm_icmp_lt C (pc := 24) (tgt := 29) dJ1_indexOf_4cfef_24 (by decide) (fun hc => ?_) (fun hc => ?_)
    · replace hK := mm_ip hc hK
      refine mm_aload_n C (pc := 29) 2 dJ1_indexOf_4cfef_29 rfl ?_
      refine mm_iload_n C (pc := 30) 3 dJ1_indexOf_4cfef_30 rfl ?_
      refine mm_iload_n C (pc := 31) 1 dJ1_indexOf_4cfef_31 rfl ?_
      refine mm_iload_n C (pc := 32) 0 dJ1_indexOf_4cfef_32 rfl ?_
      replace hK := mm_b2s hK; obtain ⟨v33, h33, e33, hK⟩ := hK
      refine mm_callS C (pc := 33) (d1 := 1) (As := [va_rf a0, .int a1, .int (mxI a2 (0 : Int32)), .int (mnI a3 v17)]) (st := []) (vk := (some (.int v33))) ((S_J1_indexOfChar_4cfef (by omega)) e33) tT_J1_indexOfChar_4cfef wd_1214 wd_1215 (by omega) (by decide) rfl (by simp [mm_crf, mm_cti, mm_ctl]) rfl dJ1_indexOf_4cfef_33 ?_
      show V _ _ (.int v33 :: _) _
      cases hK
      exact mm_iret C (pc := 36) rfl dJ1_indexOf_4cfef_36 rfl rfl
    · replace hK := mm_in hc hK
      refine mm_iconst C (pc := 27) (v := ((-1) : Int32)) dJ1_indexOf_4cfef_27 (by decide) ?_
      cases hK
      exact mm_iret C (pc := 28) rfl dJ1_indexOf_4cfef_28 rfl rfl
  · replace hK := mm_ip hc hK
    refine mm_iconst C (pc := 7) (v := ((-1) : Int32)) dJ1_indexOf_4cfef_7 (by decide) ?_
    cases hK
    exact mm_iret C (pc := 8) rfl dJ1_indexOf_4cfef_8 rfl rfl
theorem dJ0_indexOf_7cf53_0 : decode cJ0_indexOf_7cf53 0 = .ok (.aload_n 0, 1) := by decide +kernel
theorem dJ0_indexOf_7cf53_1 : decode cJ0_indexOf_7cf53 1 = .ok (.invokevirtual 492, 3) := by decide +kernel
theorem dJ0_indexOf_7cf53_4 : decode cJ0_indexOf_7cf53 4 = .ok (.ifCond .eq 19, 3) := by decide +kernel
theorem dJ0_indexOf_7cf53_7 : decode cJ0_indexOf_7cf53 7 = .ok (.aload_n 0, 1) := by decide +kernel
theorem dJ0_indexOf_7cf53_8 : decode cJ0_indexOf_7cf53 8 = .ok (.getfield 9, 3) := by decide +kernel
theorem dJ0_indexOf_7cf53_11 : decode cJ0_indexOf_7cf53 11 = .ok (.iload_n 1, 1) := by decide +kernel
theorem dJ0_indexOf_7cf53_12 : decode cJ0_indexOf_7cf53 12 = .ok (.iload_n 2, 1) := by decide +kernel
theorem dJ0_indexOf_7cf53_13 : decode cJ0_indexOf_7cf53 13 = .ok (.aload_n 0, 1) := by decide +kernel
theorem dJ0_indexOf_7cf53_14 : decode cJ0_indexOf_7cf53 14 = .ok (.invokevirtual 505, 3) := by decide +kernel
theorem dJ0_indexOf_7cf53_17 : decode cJ0_indexOf_7cf53 17 = .ok (.invokestatic 637, 3) := by decide +kernel
theorem dJ0_indexOf_7cf53_20 : decode cJ0_indexOf_7cf53 20 = .ok (.goto 16, 3) := by decide +kernel
theorem dJ0_indexOf_7cf53_23 : decode cJ0_indexOf_7cf53 23 = .ok (.aload_n 0, 1) := by decide +kernel
theorem dJ0_indexOf_7cf53_24 : decode cJ0_indexOf_7cf53 24 = .ok (.getfield 9, 3) := by decide +kernel
theorem dJ0_indexOf_7cf53_27 : decode cJ0_indexOf_7cf53 27 = .ok (.iload_n 1, 1) := by decide +kernel
theorem dJ0_indexOf_7cf53_28 : decode cJ0_indexOf_7cf53 28 = .ok (.iload_n 2, 1) := by decide +kernel
theorem dJ0_indexOf_7cf53_29 : decode cJ0_indexOf_7cf53 29 = .ok (.aload_n 0, 1) := by decide +kernel
theorem dJ0_indexOf_7cf53_30 : decode cJ0_indexOf_7cf53 30 = .ok (.invokevirtual 505, 3) := by decide +kernel
theorem dJ0_indexOf_7cf53_33 : decode cJ0_indexOf_7cf53 33 = .ok (.invokestatic 640, 3) := by decide +kernel
theorem dJ0_indexOf_7cf53_36 : decode cJ0_indexOf_7cf53 36 = .ok (.ireturn, 1) := by decide +kernel
theorem wd_1204 : Cond.code yJ0_isLatin1_aae02 cJ0_isLatin1_aae02 1 (some .boolean) ∈ lw_good := mm_wd 1204 (by decide +kernel) (by decide +kernel)
theorem tT_J0_isLatin1_aae02 : mm_T yJ0_isLatin1_aae02 cJ0_isLatin1_aae02 1 (some .boolean) 0 := ⟨wd_1204, wd_161, by decide +kernel, by decide +kernel, by decide +kernel, by decide +kernel⟩
theorem wd_1201 : Cond.methodLink RJ0 492 yJ0_isLatin1_aae02 ∈ lw_good := mm_wd 1201 (by decide +kernel) (by decide +kernel)
theorem wd_1202 : Cond.instanceMethod yJ0_isLatin1_aae02 ∈ lw_good := mm_wd 1202 (by decide +kernel) (by decide +kernel)
theorem wd_1203 : Cond.selects RJ0 yJ0_isLatin1_aae02 yJ0_isLatin1_aae02 ∈ lw_good := mm_wd 1203 (by decide +kernel) (by decide +kernel)
theorem wd_616 : Cond.code yJ0_length_8abf5 cJ0_length_8abf5 1 (some .int) ∈ lw_good := mm_wd 616 (by decide +kernel) (by decide +kernel)
theorem tT_J0_length_8abf5 : mm_T yJ0_length_8abf5 cJ0_length_8abf5 1 (some .int) 0 := ⟨wd_616, wd_161, by decide +kernel, by decide +kernel, by decide +kernel, by decide +kernel⟩
theorem wd_1205 : Cond.methodLink RJ0 505 yJ0_length_8abf5 ∈ lw_good := mm_wd 1205 (by decide +kernel) (by decide +kernel)
theorem wd_614 : Cond.instanceMethod yJ0_length_8abf5 ∈ lw_good := mm_wd 614 (by decide +kernel) (by decide +kernel)
theorem wd_615 : Cond.selects RJ0 yJ0_length_8abf5 yJ0_length_8abf5 ∈ lw_good := mm_wd 615 (by decide +kernel) (by decide +kernel)
theorem wd_1208 : Cond.code yJ1_indexOf_4cfef cJ1_indexOf_4cfef 4 (some .int) ∈ lw_good := mm_wd 1208 (by decide +kernel) (by decide +kernel)
theorem tT_J1_indexOf_4cfef : mm_T yJ1_indexOf_4cfef cJ1_indexOf_4cfef 4 (some .int) 4 := ⟨wd_1208, wd_168, by decide +kernel, by decide +kernel, by decide +kernel, by decide +kernel⟩
theorem wd_1206 : Cond.methodLink RJ0 637 yJ1_indexOf_4cfef ∈ lw_good := mm_wd 1206 (by decide +kernel) (by decide +kernel)
theorem wd_1207 : Cond.static yJ1_indexOf_4cfef ∈ lw_good := mm_wd 1207 (by decide +kernel) (by decide +kernel)
def F_J0_indexOf_7cf53_36 (s0 : Int32) (h : MH) : Option (Int32 × MH) := some (s0, h)
set_option maxRecDepth 20000 in
set_option maxHeartbeats 4000000 in
theorem w_J0_indexOf_7cf53_36 {d : Nat} {V : Nat → List (Nat × Value) → List Value → MH → Prop} {r : Int32} {hz : MH} (hd : 3 ≤ d) (C : mm_C d yJ0_indexOf_7cf53 cJ0_indexOf_7cf53 3 (some .int) (.inr (some (.int r))) hz V) (s0 : Int32) (h : MH) (hK : F_J0_indexOf_7cf53_36 s0 h = some (r, hz)) : V 36 [] [.int s0] h := by
  unfold F_J0_indexOf_7cf53_36 at hK
  cases hK
  exact mm_iret C (pc := 36) rfl dJ0_indexOf_7cf53_36 rfl rfl
def F_J0_indexOf_7cf53 (a0 : Option Nat) (a1 : Int32) (a2 : Int32) (h : MH) : Option (Int32 × MH) := mm_b2 (cV h a0 13 (F_J0_isLatin1_aae02 a0 h)) fun v1 h1 => if v1 = 0 then (none) else ((gR h1 a0 13 0).bind fun v8 => mm_b2 (cV h1 a0 13 (F_J0_length_8abf5 a0 h1)) fun v14 h14 => mm_b2 (F_J1_indexOf_4cfef v8 a1 a2 v14 h14) fun v17 h17 => F_J0_indexOf_7cf53_36 v17 h17)
set_option maxRecDepth 20000 in
set_option maxHeartbeats 4000000 in
theorem S_J0_indexOf_7cf53 {d : Nat} (hd : 3 ≤ d) {a0 : Option Nat} {a1 : Int32} {a2 : Int32} {h : MH} {r : Int32} {hz : MH} (hK : F_J0_indexOf_7cf53 a0 a1 a2 h = some (r, hz)) : mm_M yJ0_indexOf_7cf53 cJ0_indexOf_7cf53 3 (some .int) d [va_rf a0, .int a1, .int a2] h (.inr (some (.int r))) hz := by
  refine mm_ofV (by decide +kernel) (by simp [lg_sl, mm_crf, mm_cti, mm_ctl]) (fun V C => ?_)
  rw [show lv_args 0 [va_rf a0, .int a1, .int a2] = [(0, va_rf a0), (1, .int a1), (2, .int a2)] by simp [lv_args, mm_crf, mm_cti, mm_ctl]]
  unfold F_J0_indexOf_7cf53 at hK
  refine mm_aload_n C (pc := 0) 0 dJ0_indexOf_7cf53_0 rfl ?_
  replace hK := mm_b2s hK; obtain ⟨v1, h1, e1, hK⟩ := hK
  obtain ⟨o1, e1⟩ := cV_some e1
  refine mm_callV C (pc := 1) (d1 := 1) (As := []) (st := []) (vk := (some (.int v1))) ((S_J0_isLatin1_aae02 (by omega)) e1) tT_J0_isLatin1_aae02 o1 (Or.inl ⟨rfl, rfl⟩) wd_1201 wd_1202 wd_1203 (by omega) (by decide) rfl (by simp [mm_crf, mm_cti, mm_ctl]) rfl dJ0_indexOf_7cf53_1 ?_
  show V _ _ (.int v1 :: _) _
  refine mm_if_eq C (pc := 4) (tgt := 23) dJ0_indexOf_7cf53_4 (by decide) (fun hc => ?_) (fun hc => ?_)
  · replace hK := mm_ip hc hK
    cases hK
  · replace hK := mm_in hc hK
    refine mm_aload_n C (pc := 7) 0 dJ0_indexOf_7cf53_7 rfl ?_
    replace hK := mm_bd hK; obtain ⟨v8, e8, hK⟩ := hK
    refine mm_getSr C (pc := 8) wd_702 dJ0_indexOf_7cf53_8 e8 ?_
    refine mm_iload_n C (pc := 11) 1 dJ0_indexOf_7cf53_11 rfl ?_
    refine mm_iload_n C (pc := 12) 2 dJ0_indexOf_7cf53_12 rfl ?_
    refine mm_aload_n C (pc := 13) 0 dJ0_indexOf_7cf53_13 rfl ?_
    replace hK := mm_b2s hK; obtain ⟨v14, h14, e14, hK⟩ := hK
    obtain ⟨o14, e14⟩ := cV_some e14
    refine mm_callV C (pc := 14) (d1 := 2) (As := []) (st := [.int a2, .int a1, va_rf v8]) (vk := (some (.int v14))) ((S_J0_length_8abf5 (by omega)) e14) tT_J0_length_8abf5 o14 (Or.inl ⟨rfl, rfl⟩) wd_1205 wd_614 wd_615 (by omega) (by decide) rfl (by simp [mm_crf, mm_cti, mm_ctl]) rfl dJ0_indexOf_7cf53_14 ?_
    show V _ _ (.int v14 :: _) _
    replace hK := mm_b2s hK; obtain ⟨v17, h17, e17, hK⟩ := hK
    refine mm_callS C (pc := 17) (d1 := 2) (As := [va_rf v8, .int a1, .int a2, .int v14]) (st := []) (vk := (some (.int v17))) ((S_J1_indexOf_4cfef (by omega)) e17) tT_J1_indexOf_4cfef wd_1206 wd_1207 (by omega) (by decide) rfl (by simp [mm_crf, mm_cti, mm_ctl]) rfl dJ0_indexOf_7cf53_17 ?_
    show V _ _ (.int v17 :: _) _
    refine mm_goto C (pc := 20) (tgt := 36) dJ0_indexOf_7cf53_20 (by decide) ?_
    refine mm_sub C [] rfl ?_
    exact w_J0_indexOf_7cf53_36 hd C _ _ hK
theorem dJ0_indexOf_0f7a4_0 : decode cJ0_indexOf_0f7a4 0 = .ok (.aload_n 0, 1) := by decide +kernel
theorem dJ0_indexOf_0f7a4_1 : decode cJ0_indexOf_0f7a4 1 = .ok (.iload_n 1, 1) := by decide +kernel
theorem dJ0_indexOf_0f7a4_2 : decode cJ0_indexOf_0f7a4 2 = .ok (.iconst 0, 1) := by decide +kernel
theorem dJ0_indexOf_0f7a4_3 : decode cJ0_indexOf_0f7a4 3 = .ok (.invokevirtual 633, 3) := by decide +kernel
theorem dJ0_indexOf_0f7a4_6 : decode cJ0_indexOf_0f7a4 6 = .ok (.ireturn, 1) := by decide +kernel
theorem wd_1200 : Cond.code yJ0_indexOf_7cf53 cJ0_indexOf_7cf53 3 (some .int) ∈ lw_good := mm_wd 1200 (by decide +kernel) (by decide +kernel)
theorem tT_J0_indexOf_7cf53 : mm_T yJ0_indexOf_7cf53 cJ0_indexOf_7cf53 3 (some .int) 2 := ⟨wd_1200, wd_161, by decide +kernel, by decide +kernel, by decide +kernel, by decide +kernel⟩
theorem wd_1197 : Cond.methodLink RJ0 633 yJ0_indexOf_7cf53 ∈ lw_good := mm_wd 1197 (by decide +kernel) (by decide +kernel)
theorem wd_1198 : Cond.instanceMethod yJ0_indexOf_7cf53 ∈ lw_good := mm_wd 1198 (by decide +kernel) (by decide +kernel)
theorem wd_1199 : Cond.selects RJ0 yJ0_indexOf_7cf53 yJ0_indexOf_7cf53 ∈ lw_good := mm_wd 1199 (by decide +kernel) (by decide +kernel)
def F_J0_indexOf_0f7a4 (a0 : Option Nat) (a1 : Int32) (h : MH) : Option (Int32 × MH) := mm_b2 (cV h a0 13 (F_J0_indexOf_7cf53 a0 a1 (0 : Int32) h)) fun v3 h3 => some (v3, h3)
set_option maxRecDepth 20000 in
set_option maxHeartbeats 4000000 in
theorem S_J0_indexOf_0f7a4 {d : Nat} (hd : 4 ≤ d) {a0 : Option Nat} {a1 : Int32} {h : MH} {r : Int32} {hz : MH} (hK : F_J0_indexOf_0f7a4 a0 a1 h = some (r, hz)) : mm_M yJ0_indexOf_0f7a4 cJ0_indexOf_0f7a4 2 (some .int) d [va_rf a0, .int a1] h (.inr (some (.int r))) hz := by
  refine mm_ofV (by decide +kernel) (by simp [lg_sl, mm_crf, mm_cti, mm_ctl]) (fun V C => ?_)
  rw [show lv_args 0 [va_rf a0, .int a1] = [(0, va_rf a0), (1, .int a1)] by simp [lv_args, mm_crf, mm_cti, mm_ctl]]
  unfold F_J0_indexOf_0f7a4 at hK
  refine mm_aload_n C (pc := 0) 0 dJ0_indexOf_0f7a4_0 rfl ?_
  refine mm_iload_n C (pc := 1) 1 dJ0_indexOf_0f7a4_1 rfl ?_
  refine mm_iconst C (pc := 2) (v := (0 : Int32)) dJ0_indexOf_0f7a4_2 (by decide) ?_
  replace hK := mm_b2s hK; obtain ⟨v3, h3, e3, hK⟩ := hK
  obtain ⟨o3, e3⟩ := cV_some e3
  refine mm_callV C (pc := 3) (d1 := 3) (As := [.int a1, .int (0 : Int32)]) (st := []) (vk := (some (.int v3))) ((S_J0_indexOf_7cf53 (by omega)) e3) tT_J0_indexOf_7cf53 o3 (Or.inl ⟨rfl, rfl⟩) wd_1197 wd_1198 wd_1199 (by omega) (by decide) rfl (by simp [mm_crf, mm_cti, mm_ctl]) rfl dJ0_indexOf_0f7a4_3 ?_
  show V _ _ (.int v3 :: _) _
  cases hK
  exact mm_iret C (pc := 6) rfl dJ0_indexOf_0f7a4_6 rfl rfl
theorem wd_1196 : Cond.code yJ0_indexOf_0f7a4 cJ0_indexOf_0f7a4 2 (some .int) ∈ lw_good := mm_wd 1196 (by decide +kernel) (by decide +kernel)
theorem tT_J0_indexOf_0f7a4 : mm_T yJ0_indexOf_0f7a4 cJ0_indexOf_0f7a4 2 (some .int) 1 := ⟨wd_1196, wd_161, by decide +kernel, by decide +kernel, by decide +kernel, by decide +kernel⟩
theorem wd_1193 : Cond.methodLink RX9 47 yJ0_indexOf_0f7a4 ∈ lw_good := mm_wd 1193 (by decide +kernel) (by decide +kernel)
theorem wd_1194 : Cond.instanceMethod yJ0_indexOf_0f7a4 ∈ lw_good := mm_wd 1194 (by decide +kernel) (by decide +kernel)
theorem wd_1195 : Cond.selects RJ0 yJ0_indexOf_0f7a4 yJ0_indexOf_0f7a4 ∈ lw_good := mm_wd 1195 (by decide +kernel) (by decide +kernel)
theorem wd_1191 : Cond.code yX9_skipRun cX9_skipRun 3 none ∈ lw_good := mm_wd 1191 (by decide +kernel) (by decide +kernel)
theorem tT_X9_skipRun : mm_T yX9_skipRun cX9_skipRun 3 none 2 := ⟨wd_1191, wd_149, by decide +kernel, by decide +kernel, by decide +kernel, by decide +kernel⟩
theorem wd_1188 : Cond.methodLink RX9 41 yX9_skipRun ∈ lw_good := mm_wd 1188 (by decide +kernel) (by decide +kernel)
theorem wd_1190 : Cond.instanceMethod yX9_skipRun ∈ lw_good := mm_wd 1190 (by decide +kernel) (by decide +kernel)
theorem wd_16 : Cond.selects RX9 yX9_skipRun yX9_skipRun ∈ lw_good := mm_wd 16 (by decide +kernel) (by decide +kernel)
def F_X9_advance_216 (h : MH) : Option MH := some h
set_option maxRecDepth 20000 in
set_option maxHeartbeats 4000000 in
theorem w_X9_advance_216 {d : Nat} {V : Nat → List (Nat × Value) → List Value → MH → Prop} {hz : MH} (hd : 5 ≤ d) (C : mm_C d yX9_advance cX9_advance 1 none (.inr none) hz V) (h : MH) (hK : F_X9_advance_216  h = some hz) : V 216 [] [] h := by
  unfold F_X9_advance_216 at hK
  cases hK
  exact mm_vret C (pc := 216) rfl dX9_advance_216 rfl rfl
def F_X9_advance_213 (s0 : Int32) (s1 : Option Nat) (h : MH) : Option MH := (pI h s1 9 4 s0).bind fun h213 => F_X9_advance_216 h213
set_option maxRecDepth 20000 in
set_option maxHeartbeats 4000000 in
theorem w_X9_advance_213 {d : Nat} {V : Nat → List (Nat × Value) → List Value → MH → Prop} {hz : MH} (hd : 5 ≤ d) (C : mm_C d yX9_advance cX9_advance 1 none (.inr none) hz V) (s0 : Int32) (s1 : Option Nat) (h : MH) (hK : F_X9_advance_213 s0 s1 h = some hz) : V 213 [] [.int s0, va_rf s1] h := by
  unfold F_X9_advance_213 at hK
  replace hK := mm_bd hK; obtain ⟨h213, e213, hK⟩ := hK
  refine mm_puti C (pc := 213) (k := 4) false (fun z => by cases z) inGX9 tyX9 tyX9_ok nmX9 rfl (by decide) wd_332 rfl rfl dX9_advance_213 e213 ?_
  exact w_X9_advance_216 hd C _ hK
def F_X9_advance_212 (s0 : Option Nat) (h : MH) : Option MH := F_X9_advance_213 (1 : Int32) s0 h
set_option maxRecDepth 20000 in
set_option maxHeartbeats 4000000 in
theorem w_X9_advance_212 {d : Nat} {V : Nat → List (Nat × Value) → List Value → MH → Prop} {hz : MH} (hd : 5 ≤ d) (C : mm_C d yX9_advance cX9_advance 1 none (.inr none) hz V) (s0 : Option Nat) (h : MH) (hK : F_X9_advance_212 s0 h = some hz) : V 212 [] [va_rf s0] h := by
  unfold F_X9_advance_212 at hK
  refine mm_iconst C (pc := 212) (v := (1 : Int32)) dX9_advance_212 (by decide) ?_
  exact w_X9_advance_213 hd C _ _ _ hK
def F_X9_advance_175 (l0 : Option Nat) (h : MH) : Option MH := (gI h l0 9 2).bind fun v177 => (pI h l0 9 2 (v177 + (1 : Int32))).bind fun h182 => (gI h182 l0 9 5).bind fun v187 => if v187 ≤ (32 : Int32) then (F_X9_advance_212 l0 h182) else ((gI h182 l0 9 5).bind fun v198 => mm_b2 (cV h182 (some 2 : Option Nat) 13 (F_J0_indexOf_0f7a4 (some 2 : Option Nat) ((v198.toUInt32 % 65536).toInt32) h182)) fun v202 h202 => if v202 < 0 then (F_X9_advance_212 l0 h202) else (F_X9_advance_213 (4 : Int32) l0 h202))
set_option maxRecDepth 20000 in
set_option maxHeartbeats 4000000 in
theorem w_X9_advance_175 {d : Nat} {V : Nat → List (Nat × Value) → List Value → MH → Prop} {hz : MH} (hd : 5 ≤ d) (C : mm_C d yX9_advance cX9_advance 1 none (.inr none) hz V) (l0 : Option Nat) (h : MH) (hK : F_X9_advance_175 l0 h = some hz) : V 175 [(0, va_rf l0)] [] h := by
  unfold F_X9_advance_175 at hK
  refine mm_aload_n C (pc := 175) 0 dX9_advance_175 rfl ?_
  refine mm_dup C (pc := 176) dX9_advance_176 mm_crf ?_
  replace hK := mm_bd hK; obtain ⟨v177, e177, hK⟩ := hK
  refine mm_geti C (pc := 177) (k := 2) inGX9 rfl (by decide) wd_330 dX9_advance_177 e177 ?_
  refine mm_iconst C (pc := 180) (v := (1 : Int32)) dX9_advance_180 (by decide) ?_
  refine mm_iadd C (pc := 181) dX9_advance_181 ?_
  replace hK := mm_bd hK; obtain ⟨h182, e182, hK⟩ := hK
  refine mm_puti C (pc := 182) (k := 2) false (fun z => by cases z) inGX9 tyX9 tyX9_ok nmX9 rfl (by decide) wd_330 rfl rfl dX9_advance_182 e182 ?_
  refine mm_aload_n C (pc := 185) 0 dX9_advance_185 rfl ?_
  refine mm_aload_n C (pc := 186) 0 dX9_advance_186 rfl ?_
  replace hK := mm_bd hK; obtain ⟨v187, e187, hK⟩ := hK
  refine mm_geti C (pc := 187) (k := 5) inGX9 rfl (by decide) wd_333 dX9_advance_187 e187 ?_
  refine mm_bipush C (pc := 190) (v := (32 : Int32)) dX9_advance_190 (by decide) ?_
  refine mm_icmp_le C (pc := 192) (tgt := 212) dX9_advance_192 (by decide) (fun hc => ?_) (fun hc => ?_)
  · replace hK := mm_ip hc hK
    refine mm_sub C [] rfl ?_
    exact w_X9_advance_212 hd C _ _ hK
  · replace hK := mm_in hc hK
    refine mm_ldcS C (pc := 195) (i := 2) (by decide) (by rfl) dX9_advance_195 ?_
    refine mm_aload_n C (pc := 197) 0 dX9_advance_197 rfl ?_
    replace hK := mm_bd hK; obtain ⟨v198, e198, hK⟩ := hK
    refine mm_geti C (pc := 198) (k := 5) inGX9 rfl (by decide) wd_333 dX9_advance_198 e198 ?_
    refine mm_i2c C (pc := 201) dX9_advance_201 ?_
    replace hK := mm_b2s hK; obtain ⟨v202, h202, e202, hK⟩ := hK
    obtain ⟨o202, e202⟩ := cV_some e202
    refine mm_callV C (pc := 202) (d1 := 4) (As := [.int ((v198.toUInt32 % 65536).toInt32)]) (st := [va_rf l0]) (vk := (some (.int v202))) ((S_J0_indexOf_0f7a4 (by omega)) e202) tT_J0_indexOf_0f7a4 o202 (Or.inl ⟨rfl, rfl⟩) wd_1193 wd_1194 wd_1195 (by omega) (by decide) rfl (by simp [mm_crf, mm_cti, mm_ctl]) rfl dX9_advance_202 ?_
    show V _ _ (.int v202 :: _) _
    refine mm_if_lt C (pc := 205) (tgt := 212) dX9_advance_205 (by decide) (fun hc => ?_) (fun hc => ?_)
    · replace hK := mm_ip hc hK
      refine mm_sub C [] rfl ?_
      exact w_X9_advance_212 hd C _ _ hK
    · replace hK := mm_in hc hK
      refine mm_iconst C (pc := 208) (v := (4 : Int32)) dX9_advance_208 (by decide) ?_
      refine mm_goto C (pc := 209) (tgt := 213) dX9_advance_209 (by decide) ?_
      refine mm_sub C [] rfl ?_
      exact w_X9_advance_213 hd C _ _ _ hK
def F_X9_advance_169 (s0 : Int32) (s1 : Option Nat) (h : MH) : Option MH := (pI h s1 9 4 s0).bind fun h169 => F_X9_advance_216 h169
set_option maxRecDepth 20000 in
set_option maxHeartbeats 4000000 in
theorem w_X9_advance_169 {d : Nat} {V : Nat → List (Nat × Value) → List Value → MH → Prop} {hz : MH} (hd : 5 ≤ d) (C : mm_C d yX9_advance cX9_advance 1 none (.inr none) hz V) (s0 : Int32) (s1 : Option Nat) (h : MH) (hK : F_X9_advance_169 s0 s1 h = some hz) : V 169 [] [.int s0, va_rf s1] h := by
  unfold F_X9_advance_169 at hK
  replace hK := mm_bd hK; obtain ⟨h169, e169, hK⟩ := hK
  refine mm_puti C (pc := 169) (k := 4) false (fun z => by cases z) inGX9 tyX9 tyX9_ok nmX9 rfl (by decide) wd_332 rfl rfl dX9_advance_169 e169 ?_
  refine mm_goto C (pc := 172) (tgt := 216) dX9_advance_172 (by decide) ?_
  exact w_X9_advance_216 hd C _ hK
def F_X9_advance_124 (l0 : Option Nat) (h : MH) : Option MH := (gI h l0 9 5).bind fun v125 => if v125 < (48 : Int32) then (F_X9_advance_175 l0 h) else ((gI h l0 9 5).bind fun v134 => if (57 : Int32) < v134 then (F_X9_advance_175 l0 h) else ((cV h l0 9 (F_X9_skipRun l0 (48 : Int32) (57 : Int32) h)).bind fun h147 => (gI h147 l0 9 2).bind fun v152 => (gI h147 l0 9 3).bind fun v156 => if (v152 - v156) ≤ (3 : Int32) then (F_X9_advance_169 (3 : Int32) l0 h147) else (F_X9_advance_169 (1 : Int32) l0 h147)))
set_option maxRecDepth 20000 in
set_option maxHeartbeats 4000000 in
theorem w_X9_advance_124 {d : Nat} {V : Nat → List (Nat × Value) → List Value → MH → Prop} {hz : MH} (hd : 5 ≤ d) (C : mm_C d yX9_advance cX9_advance 1 none (.inr none) hz V) (l0 : Option Nat) (h : MH) (hK : F_X9_advance_124 l0 h = some hz) : V 124 [(0, va_rf l0)] [] h := by
  unfold F_X9_advance_124 at hK
  refine mm_aload_n C (pc := 124) 0 dX9_advance_124 rfl ?_
  replace hK := mm_bd hK; obtain ⟨v125, e125, hK⟩ := hK
  refine mm_geti C (pc := 125) (k := 5) inGX9 rfl (by decide) wd_333 dX9_advance_125 e125 ?_
  refine mm_bipush C (pc := 128) (v := (48 : Int32)) dX9_advance_128 (by decide) ?_
  refine mm_icmp_lt C (pc := 130) (tgt := 175) dX9_advance_130 (by decide) (fun hc => ?_) (fun hc => ?_)
  · replace hK := mm_ip hc hK
    exact w_X9_advance_175 hd C _ _ hK
  · replace hK := mm_in hc hK
    refine mm_aload_n C (pc := 133) 0 dX9_advance_133 rfl ?_
    replace hK := mm_bd hK; obtain ⟨v134, e134, hK⟩ := hK
    refine mm_geti C (pc := 134) (k := 5) inGX9 rfl (by decide) wd_333 dX9_advance_134 e134 ?_
    refine mm_bipush C (pc := 137) (v := (57 : Int32)) dX9_advance_137 (by decide) ?_
    refine mm_icmp_gt C (pc := 139) (tgt := 175) dX9_advance_139 (by decide) (fun hc => ?_) (fun hc => ?_)
    · replace hK := mm_ip hc hK
      exact w_X9_advance_175 hd C _ _ hK
    · replace hK := mm_in hc hK
      refine mm_aload_n C (pc := 142) 0 dX9_advance_142 rfl ?_
      refine mm_bipush C (pc := 143) (v := (48 : Int32)) dX9_advance_143 (by decide) ?_
      refine mm_bipush C (pc := 145) (v := (57 : Int32)) dX9_advance_145 (by decide) ?_
      replace hK := mm_bd hK; obtain ⟨h147, e147, hK⟩ := hK
      obtain ⟨o147, e147⟩ := cV_some e147
      refine mm_callV C (pc := 147) (d1 := 1) (As := [.int (48 : Int32), .int (57 : Int32)]) (st := []) (vk := none) ((S_X9_skipRun (by omega)) e147) tT_X9_skipRun o147 (Or.inr ⟨_, rfl, rfl⟩) wd_1188 wd_1190 wd_16 (by omega) (by decide) rfl (by simp [mm_crf, mm_cti, mm_ctl]) rfl dX9_advance_147 ?_
      show V _ _ [] _
      refine mm_aload_n C (pc := 150) 0 dX9_advance_150 rfl ?_
      refine mm_aload_n C (pc := 151) 0 dX9_advance_151 rfl ?_
      replace hK := mm_bd hK; obtain ⟨v152, e152, hK⟩ := hK
      refine mm_geti C (pc := 152) (k := 2) inGX9 rfl (by decide) wd_330 dX9_advance_152 e152 ?_
      refine mm_aload_n C (pc := 155) 0 dX9_advance_155 rfl ?_
      replace hK := mm_bd hK; obtain ⟨v156, e156, hK⟩ := hK
      refine mm_geti C (pc := 156) (k := 3) inGX9 rfl (by decide) wd_331 dX9_advance_156 e156 ?_
      refine mm_isub C (pc := 159) dX9_advance_159 ?_
      refine mm_iconst C (pc := 160) (v := (3 : Int32)) dX9_advance_160 (by decide) ?_
      refine mm_icmp_le C (pc := 161) (tgt := 168) dX9_advance_161 (by decide) (fun hc => ?_) (fun hc => ?_)
      · replace hK := mm_ip hc hK
        refine mm_iconst C (pc := 168) (v := (3 : Int32)) dX9_advance_168 (by decide) ?_
        refine mm_sub C [] rfl ?_
        exact w_X9_advance_169 hd C _ _ _ hK
      · replace hK := mm_in hc hK
        refine mm_iconst C (pc := 164) (v := (1 : Int32)) dX9_advance_164 (by decide) ?_
        refine mm_goto C (pc := 165) (tgt := 169) dX9_advance_165 (by decide) ?_
        refine mm_sub C [] rfl ?_
        exact w_X9_advance_169 hd C _ _ _ hK
def F_X9_advance_52 (l0 : Option Nat) (h : MH) : Option MH := (gI h l0 9 2).bind fun v54 => (pI h l0 9 3 v54).bind fun h57 => (gI h57 l0 9 3).bind fun v61 => (gI h57 l0 9 1).bind fun v65 => if v61 < v65 then ((gR h57 l0 9 0).bind fun v79 => (gI h57 l0 9 3).bind fun v83 => (aI h57 v79 2 v83).bind fun v86 => (pI h57 l0 9 5 v86).bind fun h87 => (gI h87 l0 9 5).bind fun v91 => if v91 < (97 : Int32) then (F_X9_advance_124 l0 h87) else ((gI h87 l0 9 5).bind fun v100 => if (122 : Int32) < v100 then (F_X9_advance_124 l0 h87) else ((cV h87 l0 9 (F_X9_skipRun l0 (97 : Int32) (122 : Int32) h87)).bind fun h113 => (pI h113 l0 9 4 (2 : Int32)).bind fun h118 => F_X9_advance_216 h118))) else ((pI h57 l0 9 4 (0 : Int32)).bind fun h73 => some h73)
set_option maxRecDepth 20000 in
set_option maxHeartbeats 4000000 in
theorem w_X9_advance_52 {d : Nat} {V : Nat → List (Nat × Value) → List Value → MH → Prop} {hz : MH} (hd : 5 ≤ d) (C : mm_C d yX9_advance cX9_advance 1 none (.inr none) hz V) (l0 : Option Nat) (h : MH) (hK : F_X9_advance_52 l0 h = some hz) : V 52 [(0, va_rf l0)] [] h := by
  unfold F_X9_advance_52 at hK
  refine mm_aload_n C (pc := 52) 0 dX9_advance_52 rfl ?_
  refine mm_aload_n C (pc := 53) 0 dX9_advance_53 rfl ?_
  replace hK := mm_bd hK; obtain ⟨v54, e54, hK⟩ := hK
  refine mm_geti C (pc := 54) (k := 2) inGX9 rfl (by decide) wd_330 dX9_advance_54 e54 ?_
  replace hK := mm_bd hK; obtain ⟨h57, e57, hK⟩ := hK
  refine mm_puti C (pc := 57) (k := 3) false (fun z => by cases z) inGX9 tyX9 tyX9_ok nmX9 rfl (by decide) wd_331 rfl rfl dX9_advance_57 e57 ?_
  refine mm_aload_n C (pc := 60) 0 dX9_advance_60 rfl ?_
  replace hK := mm_bd hK; obtain ⟨v61, e61, hK⟩ := hK
  refine mm_geti C (pc := 61) (k := 3) inGX9 rfl (by decide) wd_331 dX9_advance_61 e61 ?_
  refine mm_aload_n C (pc := 64) 0 dX9_advance_64 rfl ?_
  replace hK := mm_bd hK; obtain ⟨v65, e65, hK⟩ := hK
  refine mm_geti C (pc := 65) (k := 1) inGX9 rfl (by decide) wd_329 dX9_advance_65 e65 ?_
  refine mm_icmp_lt C (pc := 68) (tgt := 77) dX9_advance_68 (by decide) (fun hc => ?_) (fun hc => ?_)
  · replace hK := mm_ip hc hK
    refine mm_aload_n C (pc := 77) 0 dX9_advance_77 rfl ?_
    refine mm_aload_n C (pc := 78) 0 dX9_advance_78 rfl ?_
    replace hK := mm_bd hK; obtain ⟨v79, e79, hK⟩ := hK
    refine mm_getr C (pc := 79) (k := 0) inGX9 rfl (by decide) wd_328 dX9_advance_79 e79 ?_
    refine mm_aload_n C (pc := 82) 0 dX9_advance_82 rfl ?_
    replace hK := mm_bd hK; obtain ⟨v83, e83, hK⟩ := hK
    refine mm_geti C (pc := 83) (k := 3) inGX9 rfl (by decide) wd_331 dX9_advance_83 e83 ?_
    replace hK := mm_bd hK; obtain ⟨v86, e86, hK⟩ := hK
    refine mm_bald C (pc := 86) dX9_advance_86 e86 ?_
    replace hK := mm_bd hK; obtain ⟨h87, e87, hK⟩ := hK
    refine mm_puti C (pc := 87) (k := 5) false (fun z => by cases z) inGX9 tyX9 tyX9_ok nmX9 rfl (by decide) wd_333 rfl rfl dX9_advance_87 e87 ?_
    refine mm_aload_n C (pc := 90) 0 dX9_advance_90 rfl ?_
    replace hK := mm_bd hK; obtain ⟨v91, e91, hK⟩ := hK
    refine mm_geti C (pc := 91) (k := 5) inGX9 rfl (by decide) wd_333 dX9_advance_91 e91 ?_
    refine mm_bipush C (pc := 94) (v := (97 : Int32)) dX9_advance_94 (by decide) ?_
    refine mm_icmp_lt C (pc := 96) (tgt := 124) dX9_advance_96 (by decide) (fun hc => ?_) (fun hc => ?_)
    · replace hK := mm_ip hc hK
      exact w_X9_advance_124 hd C _ _ hK
    · replace hK := mm_in hc hK
      refine mm_aload_n C (pc := 99) 0 dX9_advance_99 rfl ?_
      replace hK := mm_bd hK; obtain ⟨v100, e100, hK⟩ := hK
      refine mm_geti C (pc := 100) (k := 5) inGX9 rfl (by decide) wd_333 dX9_advance_100 e100 ?_
      refine mm_bipush C (pc := 103) (v := (122 : Int32)) dX9_advance_103 (by decide) ?_
      refine mm_icmp_gt C (pc := 105) (tgt := 124) dX9_advance_105 (by decide) (fun hc => ?_) (fun hc => ?_)
      · replace hK := mm_ip hc hK
        exact w_X9_advance_124 hd C _ _ hK
      · replace hK := mm_in hc hK
        refine mm_aload_n C (pc := 108) 0 dX9_advance_108 rfl ?_
        refine mm_bipush C (pc := 109) (v := (97 : Int32)) dX9_advance_109 (by decide) ?_
        refine mm_bipush C (pc := 111) (v := (122 : Int32)) dX9_advance_111 (by decide) ?_
        replace hK := mm_bd hK; obtain ⟨h113, e113, hK⟩ := hK
        obtain ⟨o113, e113⟩ := cV_some e113
        refine mm_callV C (pc := 113) (d1 := 1) (As := [.int (97 : Int32), .int (122 : Int32)]) (st := []) (vk := none) ((S_X9_skipRun (by omega)) e113) tT_X9_skipRun o113 (Or.inr ⟨_, rfl, rfl⟩) wd_1188 wd_1190 wd_16 (by omega) (by decide) rfl (by simp [mm_crf, mm_cti, mm_ctl]) rfl dX9_advance_113 ?_
        show V _ _ [] _
        refine mm_aload_n C (pc := 116) 0 dX9_advance_116 rfl ?_
        refine mm_iconst C (pc := 117) (v := (2 : Int32)) dX9_advance_117 (by decide) ?_
        replace hK := mm_bd hK; obtain ⟨h118, e118, hK⟩ := hK
        refine mm_puti C (pc := 118) (k := 4) false (fun z => by cases z) inGX9 tyX9 tyX9_ok nmX9 rfl (by decide) wd_332 rfl rfl dX9_advance_118 e118 ?_
        refine mm_goto C (pc := 121) (tgt := 216) dX9_advance_121 (by decide) ?_
        refine mm_sub C [] rfl ?_
        exact w_X9_advance_216 hd C _ hK
  · replace hK := mm_in hc hK
    refine mm_aload_n C (pc := 71) 0 dX9_advance_71 rfl ?_
    refine mm_iconst C (pc := 72) (v := (0 : Int32)) dX9_advance_72 (by decide) ?_
    replace hK := mm_bd hK; obtain ⟨h73, e73, hK⟩ := hK
    refine mm_puti C (pc := 73) (k := 4) false (fun z => by cases z) inGX9 tyX9 tyX9_ok nmX9 rfl (by decide) wd_332 rfl rfl dX9_advance_73 e73 ?_
    cases hK
    exact mm_vret C (pc := 76) rfl dX9_advance_76 rfl rfl
def F_X9_advance_39 (k0 : Option Nat → MH → Option MH) (l0 : Option Nat) (h : MH) : Option MH := (gI h l0 9 2).bind fun v41 => (pI h l0 9 2 (v41 + (1 : Int32))).bind fun h46 => k0 l0 h46
set_option maxRecDepth 20000 in
set_option maxHeartbeats 4000000 in
theorem w_X9_advance_39 {d : Nat} {V : Nat → List (Nat × Value) → List Value → MH → Prop} {hz : MH} {k0 : Option Nat → MH → Option MH} (hd : 5 ≤ d) (C : mm_C d yX9_advance cX9_advance 1 none (.inr none) hz V) (q0 : ∀ (x0 : Option Nat) (h : MH), k0 x0 h = some hz → V 0 [(0, va_rf x0)] [] h) (l0 : Option Nat) (h : MH) (hK : F_X9_advance_39 k0 l0 h = some hz) : V 39 [(0, va_rf l0)] [] h := by
  unfold F_X9_advance_39 at hK
  refine mm_aload_n C (pc := 39) 0 dX9_advance_39 rfl ?_
  refine mm_dup C (pc := 40) dX9_advance_40 mm_crf ?_
  replace hK := mm_bd hK; obtain ⟨v41, e41, hK⟩ := hK
  refine mm_geti C (pc := 41) (k := 2) inGX9 rfl (by decide) wd_330 dX9_advance_41 e41 ?_
  refine mm_iconst C (pc := 44) (v := (1 : Int32)) dX9_advance_44 (by decide) ?_
  refine mm_iadd C (pc := 45) dX9_advance_45 ?_
  replace hK := mm_bd hK; obtain ⟨h46, e46, hK⟩ := hK
  refine mm_puti C (pc := 46) (k := 2) false (fun z => by cases z) inGX9 tyX9 tyX9_ok nmX9 rfl (by decide) wd_330 rfl rfl dX9_advance_46 e46 ?_
  refine mm_goto C (pc := 49) (tgt := 0) dX9_advance_49 (by decide) ?_
  exact q0 _ _ hK
def F_X9_advance_0 : Nat → Option Nat → MH → Option MH
  | 0 => fun _ _ => none
  | n + 1 => fun l0 h => (gI h l0 9 2).bind fun v1 => (gI h l0 9 1).bind fun v5 => if v5 ≤ v1 then (F_X9_advance_52 l0 h) else ((gR h l0 9 0).bind fun v12 => (gI h l0 9 2).bind fun v16 => (aI h v12 2 v16).bind fun v19 => if v19 = (10 : Int32) then (F_X9_advance_39 (F_X9_advance_0 n) l0 h) else ((gR h l0 9 0).bind fun v26 => (gI h l0 9 2).bind fun v30 => (aI h v26 2 v30).bind fun v33 => if v33 = (32 : Int32) then (F_X9_advance_39 (F_X9_advance_0 n) l0 h) else (F_X9_advance_52 l0 h)))
set_option maxRecDepth 20000 in
set_option maxHeartbeats 4000000 in
theorem w_X9_advance_0 {d : Nat} {V : Nat → List (Nat × Value) → List Value → MH → Prop} {hz : MH} (hd : 5 ≤ d) (C : mm_C d yX9_advance cX9_advance 1 none (.inr none) hz V) : ∀ (n : Nat) (l0 : Option Nat) (h : MH), F_X9_advance_0 n l0 h = some hz → V 0 [(0, va_rf l0)] [] h := by
  intro n
  induction n with
  | zero => intro l0 h hK; cases hK
  | succ n ih =>
    intro l0 h hK
    replace hK : ((gI h l0 9 2).bind fun v1 => (gI h l0 9 1).bind fun v5 => if v5 ≤ v1 then (F_X9_advance_52 l0 h) else ((gR h l0 9 0).bind fun v12 => (gI h l0 9 2).bind fun v16 => (aI h v12 2 v16).bind fun v19 => if v19 = (10 : Int32) then (F_X9_advance_39 (F_X9_advance_0 n) l0 h) else ((gR h l0 9 0).bind fun v26 => (gI h l0 9 2).bind fun v30 => (aI h v26 2 v30).bind fun v33 => if v33 = (32 : Int32) then (F_X9_advance_39 (F_X9_advance_0 n) l0 h) else (F_X9_advance_52 l0 h)))) = some hz := hK
    refine mm_aload_n C (pc := 0) 0 dX9_advance_0 rfl ?_
    replace hK := mm_bd hK; obtain ⟨v1, e1, hK⟩ := hK
    refine mm_geti C (pc := 1) (k := 2) inGX9 rfl (by decide) wd_330 dX9_advance_1 e1 ?_
    refine mm_aload_n C (pc := 4) 0 dX9_advance_4 rfl ?_
    replace hK := mm_bd hK; obtain ⟨v5, e5, hK⟩ := hK
    refine mm_geti C (pc := 5) (k := 1) inGX9 rfl (by decide) wd_329 dX9_advance_5 e5 ?_
    refine mm_icmp_ge C (pc := 8) (tgt := 52) dX9_advance_8 (by decide) (fun hc => ?_) (fun hc => ?_)
    · replace hK := mm_ip hc hK
      exact w_X9_advance_52 hd C _ _ hK
    · replace hK := mm_in hc hK
      refine mm_aload_n C (pc := 11) 0 dX9_advance_11 rfl ?_
      replace hK := mm_bd hK; obtain ⟨v12, e12, hK⟩ := hK
      refine mm_getr C (pc := 12) (k := 0) inGX9 rfl (by decide) wd_328 dX9_advance_12 e12 ?_
      refine mm_aload_n C (pc := 15) 0 dX9_advance_15 rfl ?_
      replace hK := mm_bd hK; obtain ⟨v16, e16, hK⟩ := hK
      refine mm_geti C (pc := 16) (k := 2) inGX9 rfl (by decide) wd_330 dX9_advance_16 e16 ?_
      replace hK := mm_bd hK; obtain ⟨v19, e19, hK⟩ := hK
      refine mm_bald C (pc := 19) dX9_advance_19 e19 ?_
      refine mm_bipush C (pc := 20) (v := (10 : Int32)) dX9_advance_20 (by decide) ?_
      refine mm_icmp_eq C (pc := 22) (tgt := 39) dX9_advance_22 (by decide) (fun hc => ?_) (fun hc => ?_)
      · replace hK := mm_ip hc hK
        exact w_X9_advance_39 hd C (fun z0 z1 hK => ih z0 z1 hK) _ _ hK
      · replace hK := mm_in hc hK
        refine mm_aload_n C (pc := 25) 0 dX9_advance_25 rfl ?_
        replace hK := mm_bd hK; obtain ⟨v26, e26, hK⟩ := hK
        refine mm_getr C (pc := 26) (k := 0) inGX9 rfl (by decide) wd_328 dX9_advance_26 e26 ?_
        refine mm_aload_n C (pc := 29) 0 dX9_advance_29 rfl ?_
        replace hK := mm_bd hK; obtain ⟨v30, e30, hK⟩ := hK
        refine mm_geti C (pc := 30) (k := 2) inGX9 rfl (by decide) wd_330 dX9_advance_30 e30 ?_
        replace hK := mm_bd hK; obtain ⟨v33, e33, hK⟩ := hK
        refine mm_bald C (pc := 33) dX9_advance_33 e33 ?_
        refine mm_bipush C (pc := 34) (v := (32 : Int32)) dX9_advance_34 (by decide) ?_
        refine mm_icmp_ne C (pc := 36) (tgt := 52) dX9_advance_36 (by decide) (fun hc => ?_) (fun hc => ?_)
        · replace hK := mm_in hc hK
          exact w_X9_advance_52 hd C _ _ hK
        · replace hK := mm_ip hc hK
          exact w_X9_advance_39 hd C (fun z0 z1 hK => ih z0 z1 hK) _ _ hK
def F_X9_advance (a0 : Option Nat) (h : MH) : Option MH := F_X9_advance_0 mm_N a0 h
set_option maxRecDepth 20000 in
set_option maxHeartbeats 4000000 in
theorem S_X9_advance {d : Nat} (hd : 5 ≤ d) {a0 : Option Nat} {h : MH} {hz : MH} (hK : F_X9_advance a0 h = some hz) : mm_M yX9_advance cX9_advance 1 none d [va_rf a0] h (.inr none) hz := by
  refine mm_ofV (by decide +kernel) (by simp [lg_sl, mm_crf, mm_cti, mm_ctl]) (fun V C => ?_)
  rw [show lv_args 0 [va_rf a0] = [(0, va_rf a0)] by simp [lv_args, mm_crf, mm_cti, mm_ctl]]
  unfold F_X9_advance at hK
  exact w_X9_advance_0 hd C _ _ _ hK
theorem wd_1182 : Cond.methodLink RX9 29 yJ9_min_7cf53 ∈ lw_good := mm_wd 1182 (by decide +kernel) (by decide +kernel)
theorem wd_1183 : Cond.methodLink RX9 35 yJ9_max_7cf53 ∈ lw_good := mm_wd 1183 (by decide +kernel) (by decide +kernel)
theorem wd_1187 : Cond.code yX9_advance cX9_advance 1 none ∈ lw_good := mm_wd 1187 (by decide +kernel) (by decide +kernel)
theorem tT_X9_advance : mm_T yX9_advance cX9_advance 1 none 0 := ⟨wd_1187, wd_149, by decide +kernel, by decide +kernel, by decide +kernel, by decide +kernel⟩
theorem wd_1184 : Cond.methodLink RX9 38 yX9_advance ∈ lw_good := mm_wd 1184 (by decide +kernel) (by decide +kernel)
theorem wd_1185 : Cond.instanceMethod yX9_advance ∈ lw_good := mm_wd 1185 (by decide +kernel) (by decide +kernel)
theorem wd_1186 : Cond.selects RX9 yX9_advance yX9_advance ∈ lw_good := mm_wd 1186 (by decide +kernel) (by decide +kernel)
def F_X9_open (a0 : Option Nat) (a1 : Int32) (h : MH) : Option MH := (gR h a0 9 0).bind fun v4 => (aNt h v4 2).bind fun v7 => (pI h a0 9 1 (mxI (0 : Int32) (mnI a1 v7))).bind fun h14 => (pI h14 a0 9 2 (0 : Int32)).bind fun h19 => (cV h19 a0 9 (F_X9_advance a0 h19)).bind fun h23 => some h23
set_option maxRecDepth 20000 in
set_option maxHeartbeats 4000000 in
theorem S_X9_open {d : Nat} (hd : 6 ≤ d) {a0 : Option Nat} {a1 : Int32} {h : MH} {hz : MH} (hK : F_X9_open a0 a1 h = some hz) : mm_M yX9_open cX9_open 2 none d [va_rf a0, .int a1] h (.inr none) hz := by
  refine mm_ofV (by decide +kernel) (by simp [lg_sl, mm_crf, mm_cti, mm_ctl]) (fun V C => ?_)
  rw [show lv_args 0 [va_rf a0, .int a1] = [(0, va_rf a0), (1, .int a1)] by simp [lv_args, mm_crf, mm_cti, mm_ctl]]
  unfold F_X9_open at hK
  refine mm_aload_n C (pc := 0) 0 dX9_open_0 rfl ?_
  refine mm_iconst C (pc := 1) (v := (0 : Int32)) dX9_open_1 (by decide) ?_
  refine mm_iload_n C (pc := 2) 1 dX9_open_2 rfl ?_
  refine mm_aload_n C (pc := 3) 0 dX9_open_3 rfl ?_
  replace hK := mm_bd hK; obtain ⟨v4, e4, hK⟩ := hK
  refine mm_getr C (pc := 4) (k := 0) inGX9 rfl (by decide) wd_328 dX9_open_4 e4 ?_
  replace hK := mm_bd hK; obtain ⟨v7, e7, hK⟩ := hK
  refine mm_alenB C (pc := 7) dX9_open_7 e7 ?_
  refine mm_mmin C (pc := 8) wd_1182 wd_409 wd_152 wd_410 (by omega) (by simp [mm_crf, mm_cti, mm_ctl]) dX9_open_8 ?_
  refine mm_mmax C (pc := 11) wd_1183 wd_412 wd_152 wd_413 (by omega) (by simp [mm_crf, mm_cti, mm_ctl]) dX9_open_11 ?_
  replace hK := mm_bd hK; obtain ⟨h14, e14, hK⟩ := hK
  refine mm_puti C (pc := 14) (k := 1) false (fun z => by cases z) inGX9 tyX9 tyX9_ok nmX9 rfl (by decide) wd_329 rfl rfl dX9_open_14 e14 ?_
  refine mm_aload_n C (pc := 17) 0 dX9_open_17 rfl ?_
  refine mm_iconst C (pc := 18) (v := (0 : Int32)) dX9_open_18 (by decide) ?_
  replace hK := mm_bd hK; obtain ⟨h19, e19, hK⟩ := hK
  refine mm_puti C (pc := 19) (k := 2) false (fun z => by cases z) inGX9 tyX9 tyX9_ok nmX9 rfl (by decide) wd_330 rfl rfl dX9_open_19 e19 ?_
  refine mm_aload_n C (pc := 22) 0 dX9_open_22 rfl ?_
  replace hK := mm_bd hK; obtain ⟨h23, e23, hK⟩ := hK
  obtain ⟨o23, e23⟩ := cV_some e23
  refine mm_callV C (pc := 23) (d1 := 5) (As := []) (st := []) (vk := none) ((S_X9_advance (by omega)) e23) tT_X9_advance o23 (Or.inr ⟨_, rfl, rfl⟩) wd_1184 wd_1185 wd_1186 (by omega) (by decide) rfl (by simp [mm_crf, mm_cti, mm_ctl]) rfl dX9_open_23 ?_
  show V _ _ [] _
  cases hK
  exact mm_vret C (pc := 26) rfl dX9_open_26 rfl rfl
theorem dJ3_checkIndex_8e157_0 : decode cJ3_checkIndex_8e157 0 = .ok (.iload_n 0, 1) := by decide +kernel
theorem dJ3_checkIndex_8e157_1 : decode cJ3_checkIndex_8e157 1 = .ok (.ifCond .lt 8, 3) := by decide +kernel
theorem dJ3_checkIndex_8e157_4 : decode cJ3_checkIndex_8e157 4 = .ok (.iload_n 0, 1) := by decide +kernel
theorem dJ3_checkIndex_8e157_5 : decode cJ3_checkIndex_8e157 5 = .ok (.iload_n 1, 1) := by decide +kernel
theorem dJ3_checkIndex_8e157_6 : decode cJ3_checkIndex_8e157 6 = .ok (.if_icmp .lt 10, 3) := by decide +kernel
theorem dJ3_checkIndex_8e157_9 : decode cJ3_checkIndex_8e157 9 = .ok (.aload_n 2, 1) := by decide +kernel
theorem dJ3_checkIndex_8e157_10 : decode cJ3_checkIndex_8e157 10 = .ok (.iload_n 0, 1) := by decide +kernel
theorem dJ3_checkIndex_8e157_11 : decode cJ3_checkIndex_8e157 11 = .ok (.iload_n 1, 1) := by decide +kernel
theorem dJ3_checkIndex_8e157_12 : decode cJ3_checkIndex_8e157 12 = .ok (.invokestatic 95, 3) := by decide +kernel
theorem dJ3_checkIndex_8e157_15 : decode cJ3_checkIndex_8e157 15 = .ok (.athrow, 1) := by decide +kernel
theorem dJ3_checkIndex_8e157_16 : decode cJ3_checkIndex_8e157 16 = .ok (.iload_n 0, 1) := by decide +kernel
theorem dJ3_checkIndex_8e157_17 : decode cJ3_checkIndex_8e157 17 = .ok (.ireturn, 1) := by decide +kernel
def F_J3_checkIndex_8e157 (a0 : Int32) (a1 : Int32) (a2 : Option Nat) (h : MH) : Option (Int32 × MH) := if a0 < 0 then (none) else (if a0 < a1 then (some (a0, h)) else (none))
set_option maxRecDepth 20000 in
set_option maxHeartbeats 4000000 in
theorem S_J3_checkIndex_8e157 {d : Nat} (hd : 1 ≤ d) {a0 : Int32} {a1 : Int32} {a2 : Option Nat} {h : MH} {r : Int32} {hz : MH} (hK : F_J3_checkIndex_8e157 a0 a1 a2 h = some (r, hz)) : mm_M yJ3_checkIndex_8e157 cJ3_checkIndex_8e157 3 (some .int) d [.int a0, .int a1, va_rf a2] h (.inr (some (.int r))) hz := by
  refine mm_ofV (by decide +kernel) (by simp [lg_sl, mm_crf, mm_cti, mm_ctl]) (fun V C => ?_)
  rw [show lv_args 0 [.int a0, .int a1, va_rf a2] = [(0, .int a0), (1, .int a1), (2, va_rf a2)] by simp [lv_args, mm_crf, mm_cti, mm_ctl]]
  unfold F_J3_checkIndex_8e157 at hK
  refine mm_iload_n C (pc := 0) 0 dJ3_checkIndex_8e157_0 rfl ?_
  refine mm_if_lt C (pc := 1) (tgt := 9) dJ3_checkIndex_8e157_1 (by decide) (fun hc => ?_) (fun hc => ?_)
  · replace hK := mm_ip hc hK
    cases hK
  · replace hK := mm_in hc hK
    refine mm_iload_n C (pc := 4) 0 dJ3_checkIndex_8e157_4 rfl ?_
    refine mm_iload_n C (pc := 5) 1 dJ3_checkIndex_8e157_5 rfl ?_
    refine mm_icmp_lt C (pc := 6) (tgt := 16) dJ3_checkIndex_8e157_6 (by decide) (fun hc => ?_) (fun hc => ?_)
    · replace hK := mm_ip hc hK
      refine mm_iload_n C (pc := 16) 0 dJ3_checkIndex_8e157_16 rfl ?_
      cases hK
      exact mm_iret C (pc := 17) rfl dJ3_checkIndex_8e157_17 rfl rfl
    · replace hK := mm_in hc hK
      cases hK
theorem dJ0_checkIndex_df160_0 : decode cJ0_checkIndex_df160 0 = .ok (.iload_n 0, 1) := by decide +kernel
theorem dJ0_checkIndex_df160_1 : decode cJ0_checkIndex_df160 1 = .ok (.iload_n 1, 1) := by decide +kernel
theorem dJ0_checkIndex_df160_2 : decode cJ0_checkIndex_df160 2 = .ok (.getstatic 1053, 3) := by decide +kernel
theorem dJ0_checkIndex_df160_5 : decode cJ0_checkIndex_df160 5 = .ok (.invokestatic 1059, 3) := by decide +kernel
theorem dJ0_checkIndex_df160_8 : decode cJ0_checkIndex_df160 8 = .ok (.pop, 1) := by decide +kernel
theorem dJ0_checkIndex_df160_9 : decode cJ0_checkIndex_df160 9 = .ok (.return_, 1) := by decide +kernel
theorem wd_579 : Cond.fieldLink RJ0 1053 "jdk/internal/util/Preconditions" "SIOOBE_FORMATTER" "Ljava/util/function/BiFunction;" ∈ lw_good := mm_wd 579 (by decide +kernel) (by decide +kernel)
theorem wd_1269 : Cond.code yJ3_checkIndex_8e157 cJ3_checkIndex_8e157 3 (some .int) ∈ lw_good := mm_wd 1269 (by decide +kernel) (by decide +kernel)
theorem wd_167 : Cond.initialized RJ3 ∈ lw_good := mm_wd 167 (by decide +kernel) (by decide +kernel)
theorem tT_J3_checkIndex_8e157 : mm_T yJ3_checkIndex_8e157 cJ3_checkIndex_8e157 3 (some .int) 3 := ⟨wd_1269, wd_167, by decide +kernel, by decide +kernel, by decide +kernel, by decide +kernel⟩
theorem wd_1267 : Cond.methodLink RJ0 1059 yJ3_checkIndex_8e157 ∈ lw_good := mm_wd 1267 (by decide +kernel) (by decide +kernel)
theorem wd_1268 : Cond.static yJ3_checkIndex_8e157 ∈ lw_good := mm_wd 1268 (by decide +kernel) (by decide +kernel)
def F_J0_checkIndex_df160 (a0 : Int32) (a1 : Int32) (h : MH) : Option MH := mm_b2 (F_J3_checkIndex_8e157 a0 a1 (none : Option Nat) h) fun v5 h5 => some h5
set_option maxRecDepth 20000 in
set_option maxHeartbeats 4000000 in
theorem S_J0_checkIndex_df160 {d : Nat} (hd : 2 ≤ d) {a0 : Int32} {a1 : Int32} {h : MH} {hz : MH} (hK : F_J0_checkIndex_df160 a0 a1 h = some hz) : mm_M yJ0_checkIndex_df160 cJ0_checkIndex_df160 2 none d [.int a0, .int a1] h (.inr none) hz := by
  refine mm_ofV (by decide +kernel) (by simp [lg_sl, mm_crf, mm_cti, mm_ctl]) (fun V C => ?_)
  rw [show lv_args 0 [.int a0, .int a1] = [(0, .int a0), (1, .int a1)] by simp [lv_args, mm_crf, mm_cti, mm_ctl]]
  unfold F_J0_checkIndex_df160 at hK
  refine mm_iload_n C (pc := 0) 0 dJ0_checkIndex_df160_0 rfl ?_
  refine mm_iload_n C (pc := 1) 1 dJ0_checkIndex_df160_1 rfl ?_
  refine mm_getsF C (pc := 2) wd_579 dJ0_checkIndex_df160_2 (fun bF => ?_)
  replace hK := mm_b2s hK; obtain ⟨v5, h5, e5, hK⟩ := hK
  refine mm_callS C (pc := 5) (d1 := 1) (As := [.int a0, .int a1, va_rf (stF bF)]) (st := []) (vk := (some (.int v5))) ((S_J3_checkIndex_8e157 (by omega)) e5) tT_J3_checkIndex_8e157 wd_1267 wd_1268 (by omega) (by decide) rfl (by simp [mm_crf, mm_cti, mm_ctl]) rfl dJ0_checkIndex_df160_5 ?_
  show V _ _ (.int v5 :: _) _
  refine mm_pop C (pc := 8) dJ0_checkIndex_df160_8 rfl ?_
  cases hK
  exact mm_vret C (pc := 9) rfl dJ0_checkIndex_df160_9 rfl rfl
theorem dJ1_charAt_3b067_0 : decode cJ1_charAt_3b067 0 = .ok (.iload_n 1, 1) := by decide +kernel
theorem dJ1_charAt_3b067_1 : decode cJ1_charAt_3b067 1 = .ok (.aload_n 0, 1) := by decide +kernel
theorem dJ1_charAt_3b067_2 : decode cJ1_charAt_3b067 2 = .ok (.arraylength, 1) := by decide +kernel
theorem dJ1_charAt_3b067_3 : decode cJ1_charAt_3b067 3 = .ok (.invokestatic 9, 3) := by decide +kernel
theorem dJ1_charAt_3b067_6 : decode cJ1_charAt_3b067 6 = .ok (.aload_n 0, 1) := by decide +kernel
theorem dJ1_charAt_3b067_7 : decode cJ1_charAt_3b067 7 = .ok (.iload_n 1, 1) := by decide +kernel
theorem dJ1_charAt_3b067_8 : decode cJ1_charAt_3b067 8 = .ok (.baload, 1) := by decide +kernel
theorem dJ1_charAt_3b067_9 : decode cJ1_charAt_3b067 9 = .ok (.sipush 255, 3) := by decide +kernel
theorem dJ1_charAt_3b067_12 : decode cJ1_charAt_3b067 12 = .ok (.iand, 1) := by decide +kernel
theorem dJ1_charAt_3b067_13 : decode cJ1_charAt_3b067 13 = .ok (.i2c, 1) := by decide +kernel
theorem dJ1_charAt_3b067_14 : decode cJ1_charAt_3b067 14 = .ok (.ireturn, 1) := by decide +kernel
theorem wd_1266 : Cond.code yJ0_checkIndex_df160 cJ0_checkIndex_df160 2 none ∈ lw_good := mm_wd 1266 (by decide +kernel) (by decide +kernel)
theorem tT_J0_checkIndex_df160 : mm_T yJ0_checkIndex_df160 cJ0_checkIndex_df160 2 none 2 := ⟨wd_1266, wd_161, by decide +kernel, by decide +kernel, by decide +kernel, by decide +kernel⟩
theorem wd_1264 : Cond.methodLink RJ1 9 yJ0_checkIndex_df160 ∈ lw_good := mm_wd 1264 (by decide +kernel) (by decide +kernel)
theorem wd_1265 : Cond.static yJ0_checkIndex_df160 ∈ lw_good := mm_wd 1265 (by decide +kernel) (by decide +kernel)
def F_J1_charAt_3b067 (a0 : Option Nat) (a1 : Int32) (h : MH) : Option (Int32 × MH) := (aNt h a0 2).bind fun v2 => (F_J0_checkIndex_df160 a1 v2 h).bind fun h3 => (aI h3 a0 2 a1).bind fun v8 => rC (((v8 &&& (255 : Int32)).toUInt32 % 65536).toInt32) h3
set_option maxRecDepth 20000 in
set_option maxHeartbeats 4000000 in
theorem S_J1_charAt_3b067 {d : Nat} (hd : 3 ≤ d) {a0 : Option Nat} {a1 : Int32} {h : MH} {r : Int32} {hz : MH} (hK : F_J1_charAt_3b067 a0 a1 h = some (r, hz)) : mm_M yJ1_charAt_3b067 cJ1_charAt_3b067 2 (some .char) d [va_rf a0, .int a1] h (.inr (some (.int r))) hz := by
  refine mm_ofV (by decide +kernel) (by simp [lg_sl, mm_crf, mm_cti, mm_ctl]) (fun V C => ?_)
  rw [show lv_args 0 [va_rf a0, .int a1] = [(0, va_rf a0), (1, .int a1)] by simp [lv_args, mm_crf, mm_cti, mm_ctl]]
  unfold F_J1_charAt_3b067 at hK
  refine mm_iload_n C (pc := 0) 1 dJ1_charAt_3b067_0 rfl ?_
  refine mm_aload_n C (pc := 1) 0 dJ1_charAt_3b067_1 rfl ?_
  replace hK := mm_bd hK; obtain ⟨v2, e2, hK⟩ := hK
  refine mm_alenB C (pc := 2) dJ1_charAt_3b067_2 e2 ?_
  replace hK := mm_bd hK; obtain ⟨h3, e3, hK⟩ := hK
  refine mm_callS C (pc := 3) (d1 := 2) (As := [.int a1, .int v2]) (st := []) (vk := none) ((S_J0_checkIndex_df160 (by omega)) e3) tT_J0_checkIndex_df160 wd_1264 wd_1265 (by omega) (by decide) rfl (by simp [mm_crf, mm_cti, mm_ctl]) rfl dJ1_charAt_3b067_3 ?_
  show V _ _ [] _
  refine mm_aload_n C (pc := 6) 0 dJ1_charAt_3b067_6 rfl ?_
  refine mm_iload_n C (pc := 7) 1 dJ1_charAt_3b067_7 rfl ?_
  replace hK := mm_bd hK; obtain ⟨v8, e8, hK⟩ := hK
  refine mm_bald C (pc := 8) dJ1_charAt_3b067_8 e8 ?_
  refine mm_sipush C (pc := 9) (v := (255 : Int32)) dJ1_charAt_3b067_9 (by decide) ?_
  refine mm_iand C (pc := 12) dJ1_charAt_3b067_12 ?_
  refine mm_i2c C (pc := 13) dJ1_charAt_3b067_13 ?_
  replace hK := rC_some hK; obtain ⟨hv14, hK⟩ := hK
  cases hK
  exact mm_zret C (pc := 14) rfl (mm_nrC hv14) dJ1_charAt_3b067_14 rfl rfl
theorem dJ0_charAt_5068e_0 : decode cJ0_charAt_5068e 0 = .ok (.aload_n 0, 1) := by decide +kernel
theorem dJ0_charAt_5068e_1 : decode cJ0_charAt_5068e 1 = .ok (.invokevirtual 492, 3) := by decide +kernel
theorem dJ0_charAt_5068e_4 : decode cJ0_charAt_5068e 4 = .ok (.ifCond .eq 12, 3) := by decide +kernel
theorem dJ0_charAt_5068e_7 : decode cJ0_charAt_5068e 7 = .ok (.aload_n 0, 1) := by decide +kernel
theorem dJ0_charAt_5068e_8 : decode cJ0_charAt_5068e 8 = .ok (.getfield 9, 3) := by decide +kernel
theorem dJ0_charAt_5068e_11 : decode cJ0_charAt_5068e 11 = .ok (.iload_n 1, 1) := by decide +kernel
theorem dJ0_charAt_5068e_12 : decode cJ0_charAt_5068e 12 = .ok (.invokestatic 495, 3) := by decide +kernel
theorem dJ0_charAt_5068e_15 : decode cJ0_charAt_5068e 15 = .ok (.ireturn, 1) := by decide +kernel
theorem dJ0_charAt_5068e_16 : decode cJ0_charAt_5068e 16 = .ok (.aload_n 0, 1) := by decide +kernel
theorem dJ0_charAt_5068e_17 : decode cJ0_charAt_5068e 17 = .ok (.getfield 9, 3) := by decide +kernel
theorem dJ0_charAt_5068e_20 : decode cJ0_charAt_5068e 20 = .ok (.iload_n 1, 1) := by decide +kernel
theorem dJ0_charAt_5068e_21 : decode cJ0_charAt_5068e 21 = .ok (.invokestatic 498, 3) := by decide +kernel
theorem dJ0_charAt_5068e_24 : decode cJ0_charAt_5068e 24 = .ok (.ireturn, 1) := by decide +kernel
theorem wd_1263 : Cond.code yJ1_charAt_3b067 cJ1_charAt_3b067 2 (some .char) ∈ lw_good := mm_wd 1263 (by decide +kernel) (by decide +kernel)
theorem tT_J1_charAt_3b067 : mm_T yJ1_charAt_3b067 cJ1_charAt_3b067 2 (some .char) 2 := ⟨wd_1263, wd_168, by decide +kernel, by decide +kernel, by decide +kernel, by decide +kernel⟩
theorem wd_1261 : Cond.methodLink RJ0 495 yJ1_charAt_3b067 ∈ lw_good := mm_wd 1261 (by decide +kernel) (by decide +kernel)
theorem wd_1262 : Cond.static yJ1_charAt_3b067 ∈ lw_good := mm_wd 1262 (by decide +kernel) (by decide +kernel)
def F_J0_charAt_5068e (a0 : Option Nat) (a1 : Int32) (h : MH) : Option (Int32 × MH) := mm_b2 (cV h a0 13 (F_J0_isLatin1_aae02 a0 h)) fun v1 h1 => if v1 = 0 then (none) else ((gR h1 a0 13 0).bind fun v8 => mm_b2 (F_J1_charAt_3b067 v8 a1 h1) fun v12 h12 => rC v12 h12)
set_option maxRecDepth 20000 in
set_option maxHeartbeats 4000000 in
theorem S_J0_charAt_5068e {d : Nat} (hd : 4 ≤ d) {a0 : Option Nat} {a1 : Int32} {h : MH} {r : Int32} {hz : MH} (hK : F_J0_charAt_5068e a0 a1 h = some (r, hz)) : mm_M yJ0_charAt_5068e cJ0_charAt_5068e 2 (some .char) d [va_rf a0, .int a1] h (.inr (some (.int r))) hz := by
  refine mm_ofV (by decide +kernel) (by simp [lg_sl, mm_crf, mm_cti, mm_ctl]) (fun V C => ?_)
  rw [show lv_args 0 [va_rf a0, .int a1] = [(0, va_rf a0), (1, .int a1)] by simp [lv_args, mm_crf, mm_cti, mm_ctl]]
  unfold F_J0_charAt_5068e at hK
  refine mm_aload_n C (pc := 0) 0 dJ0_charAt_5068e_0 rfl ?_
  replace hK := mm_b2s hK; obtain ⟨v1, h1, e1, hK⟩ := hK
  obtain ⟨o1, e1⟩ := cV_some e1
  refine mm_callV C (pc := 1) (d1 := 1) (As := []) (st := []) (vk := (some (.int v1))) ((S_J0_isLatin1_aae02 (by omega)) e1) tT_J0_isLatin1_aae02 o1 (Or.inl ⟨rfl, rfl⟩) wd_1201 wd_1202 wd_1203 (by omega) (by decide) rfl (by simp [mm_crf, mm_cti, mm_ctl]) rfl dJ0_charAt_5068e_1 ?_
  show V _ _ (.int v1 :: _) _
  refine mm_if_eq C (pc := 4) (tgt := 16) dJ0_charAt_5068e_4 (by decide) (fun hc => ?_) (fun hc => ?_)
  · replace hK := mm_ip hc hK
    cases hK
  · replace hK := mm_in hc hK
    refine mm_aload_n C (pc := 7) 0 dJ0_charAt_5068e_7 rfl ?_
    replace hK := mm_bd hK; obtain ⟨v8, e8, hK⟩ := hK
    refine mm_getSr C (pc := 8) wd_702 dJ0_charAt_5068e_8 e8 ?_
    refine mm_iload_n C (pc := 11) 1 dJ0_charAt_5068e_11 rfl ?_
    replace hK := mm_b2s hK; obtain ⟨v12, h12, e12, hK⟩ := hK
    refine mm_callS C (pc := 12) (d1 := 3) (As := [va_rf v8, .int a1]) (st := []) (vk := (some (.int v12))) ((S_J1_charAt_3b067 (by omega)) e12) tT_J1_charAt_3b067 wd_1261 wd_1262 (by omega) (by decide) rfl (by simp [mm_crf, mm_cti, mm_ctl]) rfl dJ0_charAt_5068e_12 ?_
    show V _ _ (.int v12 :: _) _
    replace hK := rC_some hK; obtain ⟨hv15, hK⟩ := hK
    cases hK
    exact mm_zret C (pc := 15) rfl (mm_nrC hv15) dJ0_charAt_5068e_15 rfl rfl
theorem wd_1256 : Cond.methodLink RX9 53 yJ0_length_8abf5 ∈ lw_good := mm_wd 1256 (by decide +kernel) (by decide +kernel)
theorem wd_1260 : Cond.code yJ0_charAt_5068e cJ0_charAt_5068e 2 (some .char) ∈ lw_good := mm_wd 1260 (by decide +kernel) (by decide +kernel)
theorem tT_J0_charAt_5068e : mm_T yJ0_charAt_5068e cJ0_charAt_5068e 2 (some .char) 1 := ⟨wd_1260, wd_161, by decide +kernel, by decide +kernel, by decide +kernel, by decide +kernel⟩
theorem wd_1257 : Cond.methodLink RX9 56 yJ0_charAt_5068e ∈ lw_good := mm_wd 1257 (by decide +kernel) (by decide +kernel)
theorem wd_1258 : Cond.instanceMethod yJ0_charAt_5068e ∈ lw_good := mm_wd 1258 (by decide +kernel) (by decide +kernel)
theorem wd_1259 : Cond.selects RJ0 yJ0_charAt_5068e yJ0_charAt_5068e ∈ lw_good := mm_wd 1259 (by decide +kernel) (by decide +kernel)
def F_X9_isWord_24 (h : MH) : Option (Int32 × MH) := rZ (0 : Int32) h
set_option maxRecDepth 20000 in
set_option maxHeartbeats 4000000 in
theorem w_X9_isWord_24 {d : Nat} {V : Nat → List (Nat × Value) → List Value → MH → Prop} {r : Int32} {hz : MH} (hd : 5 ≤ d) (C : mm_C d yX9_isWord cX9_isWord 3 (some .boolean) (.inr (some (.int r))) hz V) (h : MH) (hK : F_X9_isWord_24  h = some (r, hz)) : V 24 [] [] h := by
  unfold F_X9_isWord_24 at hK
  refine mm_iconst C (pc := 24) (v := (0 : Int32)) dX9_isWord_24 (by decide) ?_
  replace hK := rZ_some hK; obtain ⟨hv25, hK⟩ := hK
  cases hK
  exact mm_zret C (pc := 25) rfl (mm_nrZ hv25) dX9_isWord_25 rfl rfl
def F_X9_isWord_68 (h : MH) : Option (Int32 × MH) := rZ (0 : Int32) h
set_option maxRecDepth 20000 in
set_option maxHeartbeats 4000000 in
theorem w_X9_isWord_68 {d : Nat} {V : Nat → List (Nat × Value) → List Value → MH → Prop} {r : Int32} {hz : MH} (hd : 5 ≤ d) (C : mm_C d yX9_isWord cX9_isWord 3 (some .boolean) (.inr (some (.int r))) hz V) (h : MH) (hK : F_X9_isWord_68  h = some (r, hz)) : V 68 [] [] h := by
  unfold F_X9_isWord_68 at hK
  refine mm_iconst C (pc := 68) (v := (0 : Int32)) dX9_isWord_68 (by decide) ?_
  replace hK := rZ_some hK; obtain ⟨hv69, hK⟩ := hK
  cases hK
  exact mm_zret C (pc := 69) rfl (mm_nrZ hv69) dX9_isWord_69 rfl rfl
def F_X9_isWord_28 : Nat → Option Nat → Option Nat → Int32 → MH → Option (Int32 × MH)
  | 0 => fun _ _ _ _ => none
  | n + 1 => fun l0 l1 l2 h => mm_b2 (cV h l1 13 (F_J0_length_8abf5 l1 h)) fun v30 h30 => if v30 ≤ l2 then (rZ (1 : Int32) h30) else ((gI h30 l0 9 3).bind fun v37 => (gI h30 l0 9 1).bind fun v43 => if v43 ≤ (v37 + l2) then (F_X9_isWord_68 h30) else ((gR h30 l0 9 0).bind fun v50 => (gI h30 l0 9 3).bind fun v54 => (aI h30 v50 2 (v54 + l2)).bind fun v59 => mm_b2 (cV h30 l1 13 (F_J0_charAt_5068e l1 l2 h30)) fun v62 h62 => if v59 = v62 then (F_X9_isWord_28 n l0 l1 (l2 + (1 : Int32)) h62) else (F_X9_isWord_68 h62)))
set_option maxRecDepth 20000 in
set_option maxHeartbeats 4000000 in
theorem w_X9_isWord_28 {d : Nat} {V : Nat → List (Nat × Value) → List Value → MH → Prop} {r : Int32} {hz : MH} (hd : 5 ≤ d) (C : mm_C d yX9_isWord cX9_isWord 3 (some .boolean) (.inr (some (.int r))) hz V) : ∀ (n : Nat) (l0 : Option Nat) (l1 : Option Nat) (l2 : Int32) (h : MH), F_X9_isWord_28 n l0 l1 l2 h = some (r, hz) → V 28 [(0, va_rf l0), (1, va_rf l1), (2, .int l2)] [] h := by
  intro n
  induction n with
  | zero => intro l0 l1 l2 h hK; cases hK
  | succ n ih =>
    intro l0 l1 l2 h hK
    replace hK : (mm_b2 (cV h l1 13 (F_J0_length_8abf5 l1 h)) fun v30 h30 => if v30 ≤ l2 then (rZ (1 : Int32) h30) else ((gI h30 l0 9 3).bind fun v37 => (gI h30 l0 9 1).bind fun v43 => if v43 ≤ (v37 + l2) then (F_X9_isWord_68 h30) else ((gR h30 l0 9 0).bind fun v50 => (gI h30 l0 9 3).bind fun v54 => (aI h30 v50 2 (v54 + l2)).bind fun v59 => mm_b2 (cV h30 l1 13 (F_J0_charAt_5068e l1 l2 h30)) fun v62 h62 => if v59 = v62 then (F_X9_isWord_28 n l0 l1 (l2 + (1 : Int32)) h62) else (F_X9_isWord_68 h62)))) = some (r, hz) := hK
    refine mm_iload_n C (pc := 28) 2 dX9_isWord_28 rfl ?_
    refine mm_aload_n C (pc := 29) 1 dX9_isWord_29 rfl ?_
    replace hK := mm_b2s hK; obtain ⟨v30, h30, e30, hK⟩ := hK
    obtain ⟨o30, e30⟩ := cV_some e30
    refine mm_callV C (pc := 30) (d1 := 2) (As := []) (st := [.int l2]) (vk := (some (.int v30))) ((S_J0_length_8abf5 (by omega)) e30) tT_J0_length_8abf5 o30 (Or.inl ⟨rfl, rfl⟩) wd_1256 wd_614 wd_615 (by omega) (by decide) rfl (by simp [mm_crf, mm_cti, mm_ctl]) rfl dX9_isWord_30 ?_
    show V _ _ (.int v30 :: _) _
    refine mm_icmp_ge C (pc := 33) (tgt := 76) dX9_isWord_33 (by decide) (fun hc => ?_) (fun hc => ?_)
    · replace hK := mm_ip hc hK
      refine mm_iconst C (pc := 76) (v := (1 : Int32)) dX9_isWord_76 (by decide) ?_
      replace hK := rZ_some hK; obtain ⟨hv77, hK⟩ := hK
      cases hK
      exact mm_zret C (pc := 77) rfl (mm_nrZ hv77) dX9_isWord_77 rfl rfl
    · replace hK := mm_in hc hK
      refine mm_aload_n C (pc := 36) 0 dX9_isWord_36 rfl ?_
      replace hK := mm_bd hK; obtain ⟨v37, e37, hK⟩ := hK
      refine mm_geti C (pc := 37) (k := 3) inGX9 rfl (by decide) wd_331 dX9_isWord_37 e37 ?_
      refine mm_iload_n C (pc := 40) 2 dX9_isWord_40 rfl ?_
      refine mm_iadd C (pc := 41) dX9_isWord_41 ?_
      refine mm_aload_n C (pc := 42) 0 dX9_isWord_42 rfl ?_
      replace hK := mm_bd hK; obtain ⟨v43, e43, hK⟩ := hK
      refine mm_geti C (pc := 43) (k := 1) inGX9 rfl (by decide) wd_329 dX9_isWord_43 e43 ?_
      refine mm_icmp_ge C (pc := 46) (tgt := 68) dX9_isWord_46 (by decide) (fun hc => ?_) (fun hc => ?_)
      · replace hK := mm_ip hc hK
        refine mm_sub C [] rfl ?_
        exact w_X9_isWord_68 hd C _ hK
      · replace hK := mm_in hc hK
        refine mm_aload_n C (pc := 49) 0 dX9_isWord_49 rfl ?_
        replace hK := mm_bd hK; obtain ⟨v50, e50, hK⟩ := hK
        refine mm_getr C (pc := 50) (k := 0) inGX9 rfl (by decide) wd_328 dX9_isWord_50 e50 ?_
        refine mm_aload_n C (pc := 53) 0 dX9_isWord_53 rfl ?_
        replace hK := mm_bd hK; obtain ⟨v54, e54, hK⟩ := hK
        refine mm_geti C (pc := 54) (k := 3) inGX9 rfl (by decide) wd_331 dX9_isWord_54 e54 ?_
        refine mm_iload_n C (pc := 57) 2 dX9_isWord_57 rfl ?_
        refine mm_iadd C (pc := 58) dX9_isWord_58 ?_
        replace hK := mm_bd hK; obtain ⟨v59, e59, hK⟩ := hK
        refine mm_bald C (pc := 59) dX9_isWord_59 e59 ?_
        refine mm_aload_n C (pc := 60) 1 dX9_isWord_60 rfl ?_
        refine mm_iload_n C (pc := 61) 2 dX9_isWord_61 rfl ?_
        replace hK := mm_b2s hK; obtain ⟨v62, h62, e62, hK⟩ := hK
        obtain ⟨o62, e62⟩ := cV_some e62
        refine mm_callV C (pc := 62) (d1 := 4) (As := [.int l2]) (st := [.int v59]) (vk := (some (.int v62))) ((S_J0_charAt_5068e (by omega)) e62) tT_J0_charAt_5068e o62 (Or.inl ⟨rfl, rfl⟩) wd_1257 wd_1258 wd_1259 (by omega) (by decide) rfl (by simp [mm_crf, mm_cti, mm_ctl]) rfl dX9_isWord_62 ?_
        show V _ _ (.int v62 :: _) _
        refine mm_icmp_eq C (pc := 65) (tgt := 70) dX9_isWord_65 (by decide) (fun hc => ?_) (fun hc => ?_)
        · replace hK := mm_ip hc hK
          refine mm_iinc C (pc := 70) (v := (l2 + (1 : Int32))) (lv' := [(2, .int (l2 + (1 : Int32))), (0, va_rf l0), (1, va_rf l1)]) 2 dX9_isWord_70 rfl rfl (by decide) (by simp [mm_crf]) ?_
          refine mm_goto C (pc := 73) (tgt := 28) dX9_isWord_73 (by decide) ?_
          refine mm_sub C [1, 2, 0] rfl ?_
          exact ih _ _ _ _ hK
        · replace hK := mm_in hc hK
          refine mm_sub C [] rfl ?_
          exact w_X9_isWord_68 hd C _ hK
def F_X9_isWord (a0 : Option Nat) (a1 : Option Nat) (h : MH) : Option (Int32 × MH) := (gI h a0 9 4).bind fun v1 => if v1 = (2 : Int32) then ((gI h a0 9 2).bind fun v9 => (gI h a0 9 3).bind fun v13 => mm_b2 (cV h a1 13 (F_J0_length_8abf5 a1 h)) fun v18 h18 => if (v9 - v13) = v18 then (F_X9_isWord_28 mm_N a0 a1 (0 : Int32) h18) else (F_X9_isWord_24 h18)) else (F_X9_isWord_24 h)
set_option maxRecDepth 20000 in
set_option maxHeartbeats 4000000 in
theorem S_X9_isWord {d : Nat} (hd : 5 ≤ d) {a0 : Option Nat} {a1 : Option Nat} {h : MH} {r : Int32} {hz : MH} (hK : F_X9_isWord a0 a1 h = some (r, hz)) : mm_M yX9_isWord cX9_isWord 3 (some .boolean) d [va_rf a0, va_rf a1] h (.inr (some (.int r))) hz := by
  refine mm_ofV (by decide +kernel) (by simp [lg_sl, mm_crf, mm_cti, mm_ctl]) (fun V C => ?_)
  rw [show lv_args 0 [va_rf a0, va_rf a1] = [(0, va_rf a0), (1, va_rf a1)] by simp [lv_args, mm_crf, mm_cti, mm_ctl]]
  unfold F_X9_isWord at hK
  refine mm_aload_n C (pc := 0) 0 dX9_isWord_0 rfl ?_
  replace hK := mm_bd hK; obtain ⟨v1, e1, hK⟩ := hK
  refine mm_geti C (pc := 1) (k := 4) inGX9 rfl (by decide) wd_332 dX9_isWord_1 e1 ?_
  refine mm_iconst C (pc := 4) (v := (2 : Int32)) dX9_isWord_4 (by decide) ?_
  refine mm_icmp_ne C (pc := 5) (tgt := 24) dX9_isWord_5 (by decide) (fun hc => ?_) (fun hc => ?_)
  · replace hK := mm_in hc hK
    refine mm_sub C [] rfl ?_
    exact w_X9_isWord_24 hd C _ hK
  · replace hK := mm_ip hc hK
    refine mm_aload_n C (pc := 8) 0 dX9_isWord_8 rfl ?_
    replace hK := mm_bd hK; obtain ⟨v9, e9, hK⟩ := hK
    refine mm_geti C (pc := 9) (k := 2) inGX9 rfl (by decide) wd_330 dX9_isWord_9 e9 ?_
    refine mm_aload_n C (pc := 12) 0 dX9_isWord_12 rfl ?_
    replace hK := mm_bd hK; obtain ⟨v13, e13, hK⟩ := hK
    refine mm_geti C (pc := 13) (k := 3) inGX9 rfl (by decide) wd_331 dX9_isWord_13 e13 ?_
    refine mm_isub C (pc := 16) dX9_isWord_16 ?_
    refine mm_aload_n C (pc := 17) 1 dX9_isWord_17 rfl ?_
    replace hK := mm_b2s hK; obtain ⟨v18, h18, e18, hK⟩ := hK
    obtain ⟨o18, e18⟩ := cV_some e18
    refine mm_callV C (pc := 18) (d1 := 2) (As := []) (st := [.int (v9 - v13)]) (vk := (some (.int v18))) ((S_J0_length_8abf5 (by omega)) e18) tT_J0_length_8abf5 o18 (Or.inl ⟨rfl, rfl⟩) wd_1256 wd_614 wd_615 (by omega) (by decide) rfl (by simp [mm_crf, mm_cti, mm_ctl]) rfl dX9_isWord_18 ?_
    show V _ _ (.int v18 :: _) _
    refine mm_icmp_eq C (pc := 21) (tgt := 26) dX9_isWord_21 (by decide) (fun hc => ?_) (fun hc => ?_)
    · replace hK := mm_ip hc hK
      refine mm_iconst C (pc := 26) (v := (0 : Int32)) dX9_isWord_26 (by decide) ?_
      refine mm_istore_n C (pc := 27) (i := 2) (lv' := [(2, .int (0 : Int32)), (0, va_rf a0), (1, va_rf a1)]) dX9_isWord_27 rfl (by decide) (by simp [mm_crf]) ?_
      refine mm_sub C [1, 2, 0] rfl ?_
      exact w_X9_isWord_28 hd C _ _ _ _ _ hK
    · replace hK := mm_in hc hK
      refine mm_sub C [] rfl ?_
      exact w_X9_isWord_24 hd C _ hK
def F_X9_isBad_13 (s0 : Int32) (h : MH) : Option (Int32 × MH) := rZ s0 h
set_option maxRecDepth 20000 in
set_option maxHeartbeats 4000000 in
theorem w_X9_isBad_13 {d : Nat} {V : Nat → List (Nat × Value) → List Value → MH → Prop} {r : Int32} {hz : MH} (hd : 1 ≤ d) (C : mm_C d yX9_isBad cX9_isBad 1 (some .boolean) (.inr (some (.int r))) hz V) (s0 : Int32) (h : MH) (hK : F_X9_isBad_13 s0 h = some (r, hz)) : V 13 [] [.int s0] h := by
  unfold F_X9_isBad_13 at hK
  replace hK := rZ_some hK; obtain ⟨hv13, hK⟩ := hK
  cases hK
  exact mm_zret C (pc := 13) rfl (mm_nrZ hv13) dX9_isBad_13 rfl rfl
def F_X9_isBad (a0 : Option Nat) (h : MH) : Option (Int32 × MH) := (gI h a0 9 4).bind fun v1 => if v1 = (1 : Int32) then (F_X9_isBad_13 (1 : Int32) h) else (F_X9_isBad_13 (0 : Int32) h)
set_option maxRecDepth 20000 in
set_option maxHeartbeats 4000000 in
theorem S_X9_isBad {d : Nat} (hd : 1 ≤ d) {a0 : Option Nat} {h : MH} {r : Int32} {hz : MH} (hK : F_X9_isBad a0 h = some (r, hz)) : mm_M yX9_isBad cX9_isBad 1 (some .boolean) d [va_rf a0] h (.inr (some (.int r))) hz := by
  refine mm_ofV (by decide +kernel) (by simp [lg_sl, mm_crf, mm_cti, mm_ctl]) (fun V C => ?_)
  rw [show lv_args 0 [va_rf a0] = [(0, va_rf a0)] by simp [lv_args, mm_crf, mm_cti, mm_ctl]]
  unfold F_X9_isBad at hK
  refine mm_aload_n C (pc := 0) 0 dX9_isBad_0 rfl ?_
  replace hK := mm_bd hK; obtain ⟨v1, e1, hK⟩ := hK
  refine mm_geti C (pc := 1) (k := 4) inGX9 rfl (by decide) wd_332 dX9_isBad_1 e1 ?_
  refine mm_iconst C (pc := 4) (v := (1 : Int32)) dX9_isBad_4 (by decide) ?_
  refine mm_icmp_ne C (pc := 5) (tgt := 12) dX9_isBad_5 (by decide) (fun hc => ?_) (fun hc => ?_)
  · replace hK := mm_in hc hK
    refine mm_iconst C (pc := 12) (v := (0 : Int32)) dX9_isBad_12 (by decide) ?_
    refine mm_sub C [] rfl ?_
    exact w_X9_isBad_13 hd C _ _ hK
  · replace hK := mm_ip hc hK
    refine mm_iconst C (pc := 8) (v := (1 : Int32)) dX9_isBad_8 (by decide) ?_
    refine mm_goto C (pc := 9) (tgt := 13) dX9_isBad_9 (by decide) ?_
    refine mm_sub C [] rfl ?_
    exact w_X9_isBad_13 hd C _ _ hK
def F_X9_start (a0 : Option Nat) (h : MH) : Option (Int32 × MH) := (gI h a0 9 3).bind fun v1 => some (v1, h)
set_option maxRecDepth 20000 in
set_option maxHeartbeats 4000000 in
theorem S_X9_start {d : Nat} (hd : 1 ≤ d) {a0 : Option Nat} {h : MH} {r : Int32} {hz : MH} (hK : F_X9_start a0 h = some (r, hz)) : mm_M yX9_start cX9_start 1 (some .int) d [va_rf a0] h (.inr (some (.int r))) hz := by
  refine mm_ofV (by decide +kernel) (by simp [lg_sl, mm_crf, mm_cti, mm_ctl]) (fun V C => ?_)
  rw [show lv_args 0 [va_rf a0] = [(0, va_rf a0)] by simp [lv_args, mm_crf, mm_cti, mm_ctl]]
  unfold F_X9_start at hK
  refine mm_aload_n C (pc := 0) 0 dX9_start_0 rfl ?_
  replace hK := mm_bd hK; obtain ⟨v1, e1, hK⟩ := hK
  refine mm_geti C (pc := 1) (k := 3) inGX9 rfl (by decide) wd_331 dX9_start_1 e1 ?_
  cases hK
  exact mm_iret C (pc := 4) rfl dX9_start_4 rfl rfl
theorem wd_1284 : Cond.code yX9_isBad cX9_isBad 1 (some .boolean) ∈ lw_good := mm_wd 1284 (by decide +kernel) (by decide +kernel)
theorem tT_X9_isBad : mm_T yX9_isBad cX9_isBad 1 (some .boolean) 0 := ⟨wd_1284, wd_149, by decide +kernel, by decide +kernel, by decide +kernel, by decide +kernel⟩
theorem wd_1281 : Cond.methodLink RX7 124 yX9_isBad ∈ lw_good := mm_wd 1281 (by decide +kernel) (by decide +kernel)
theorem wd_1282 : Cond.instanceMethod yX9_isBad ∈ lw_good := mm_wd 1282 (by decide +kernel) (by decide +kernel)
theorem wd_1283 : Cond.selects RX9 yX9_isBad yX9_isBad ∈ lw_good := mm_wd 1283 (by decide +kernel) (by decide +kernel)
theorem wd_1288 : Cond.code yX9_start cX9_start 1 (some .int) ∈ lw_good := mm_wd 1288 (by decide +kernel) (by decide +kernel)
theorem tT_X9_start : mm_T yX9_start cX9_start 1 (some .int) 0 := ⟨wd_1288, wd_149, by decide +kernel, by decide +kernel, by decide +kernel, by decide +kernel⟩
theorem wd_1285 : Cond.methodLink RX7 127 yX9_start ∈ lw_good := mm_wd 1285 (by decide +kernel) (by decide +kernel)
theorem wd_1286 : Cond.instanceMethod yX9_start ∈ lw_good := mm_wd 1286 (by decide +kernel) (by decide +kernel)
theorem wd_1287 : Cond.selects RX9 yX9_start yX9_start ∈ lw_good := mm_wd 1287 (by decide +kernel) (by decide +kernel)
def F_X7_refuse_16 (l0 : Option Nat) (s0 : Int32) (s1 : Option Nat) (h : MH) : Option (Int32 × MH) := (pI h s1 7 13 s0).bind fun h16 => (gR h16 l0 7 0).bind fun v21 => mm_b2 (cV h16 v21 9 (F_X9_start v21 h16)) fun v24 h24 => (pI h24 l0 7 14 v24).bind fun h27 => rZ (0 : Int32) h27
set_option maxRecDepth 20000 in
set_option maxHeartbeats 4000000 in
theorem w_X7_refuse_16 {d : Nat} {V : Nat → List (Nat × Value) → List Value → MH → Prop} {r : Int32} {hz : MH} (hd : 2 ≤ d) (C : mm_C d yX7_refuse cX7_refuse 2 (some .boolean) (.inr (some (.int r))) hz V) (l0 : Option Nat) (s0 : Int32) (s1 : Option Nat) (h : MH) (hK : F_X7_refuse_16 l0 s0 s1 h = some (r, hz)) : V 16 [(0, va_rf l0)] [.int s0, va_rf s1] h := by
  unfold F_X7_refuse_16 at hK
  replace hK := mm_bd hK; obtain ⟨h16, e16, hK⟩ := hK
  refine mm_puti C (pc := 16) (k := 13) false (fun z => by cases z) inGX7 tyX7 tyX7_ok nmX7 rfl (by decide) wd_364 rfl rfl dX7_refuse_16 e16 ?_
  refine mm_aload_n C (pc := 19) 0 dX7_refuse_19 rfl ?_
  refine mm_aload_n C (pc := 20) 0 dX7_refuse_20 rfl ?_
  replace hK := mm_bd hK; obtain ⟨v21, e21, hK⟩ := hK
  refine mm_getr C (pc := 21) (k := 0) inGX7 rfl (by decide) wd_351 dX7_refuse_21 e21 ?_
  replace hK := mm_b2s hK; obtain ⟨v24, h24, e24, hK⟩ := hK
  obtain ⟨o24, e24⟩ := cV_some e24
  refine mm_callV C (pc := 24) (d1 := 1) (As := []) (st := [va_rf l0]) (vk := (some (.int v24))) ((S_X9_start (by omega)) e24) tT_X9_start o24 (Or.inr ⟨_, rfl, rfl⟩) wd_1285 wd_1286 wd_1287 (by omega) (by decide) rfl (by simp [mm_crf, mm_cti, mm_ctl]) rfl dX7_refuse_24 ?_
  show V _ _ (.int v24 :: _) _
  replace hK := mm_bd hK; obtain ⟨h27, e27, hK⟩ := hK
  refine mm_puti C (pc := 27) (k := 14) false (fun z => by cases z) inGX7 tyX7 tyX7_ok nmX7 rfl (by decide) wd_365 rfl rfl dX7_refuse_27 e27 ?_
  refine mm_iconst C (pc := 30) (v := (0 : Int32)) dX7_refuse_30 (by decide) ?_
  replace hK := rZ_some hK; obtain ⟨hv31, hK⟩ := hK
  cases hK
  exact mm_zret C (pc := 31) rfl (mm_nrZ hv31) dX7_refuse_31 rfl rfl
def F_X7_refuse (a0 : Option Nat) (a1 : Int32) (h : MH) : Option (Int32 × MH) := (gR h a0 7 0).bind fun v2 => mm_b2 (cV h v2 9 (F_X9_isBad v2 h)) fun v5 h5 => if v5 = 0 then (F_X7_refuse_16 a0 a1 a0 h5) else (F_X7_refuse_16 a0 (1 : Int32) a0 h5)
set_option maxRecDepth 20000 in
set_option maxHeartbeats 4000000 in
theorem S_X7_refuse {d : Nat} (hd : 2 ≤ d) {a0 : Option Nat} {a1 : Int32} {h : MH} {r : Int32} {hz : MH} (hK : F_X7_refuse a0 a1 h = some (r, hz)) : mm_M yX7_refuse cX7_refuse 2 (some .boolean) d [va_rf a0, .int a1] h (.inr (some (.int r))) hz := by
  refine mm_ofV (by decide +kernel) (by simp [lg_sl, mm_crf, mm_cti, mm_ctl]) (fun V C => ?_)
  rw [show lv_args 0 [va_rf a0, .int a1] = [(0, va_rf a0), (1, .int a1)] by simp [lv_args, mm_crf, mm_cti, mm_ctl]]
  unfold F_X7_refuse at hK
  refine mm_aload_n C (pc := 0) 0 dX7_refuse_0 rfl ?_
  refine mm_aload_n C (pc := 1) 0 dX7_refuse_1 rfl ?_
  replace hK := mm_bd hK; obtain ⟨v2, e2, hK⟩ := hK
  refine mm_getr C (pc := 2) (k := 0) inGX7 rfl (by decide) wd_351 dX7_refuse_2 e2 ?_
  replace hK := mm_b2s hK; obtain ⟨v5, h5, e5, hK⟩ := hK
  obtain ⟨o5, e5⟩ := cV_some e5
  refine mm_callV C (pc := 5) (d1 := 1) (As := []) (st := [va_rf a0]) (vk := (some (.int v5))) ((S_X9_isBad (by omega)) e5) tT_X9_isBad o5 (Or.inr ⟨_, rfl, rfl⟩) wd_1281 wd_1282 wd_1283 (by omega) (by decide) rfl (by simp [mm_crf, mm_cti, mm_ctl]) rfl dX7_refuse_5 ?_
  show V _ _ (.int v5 :: _) _
  refine mm_if_eq C (pc := 8) (tgt := 15) dX7_refuse_8 (by decide) (fun hc => ?_) (fun hc => ?_)
  · replace hK := mm_ip hc hK
    refine mm_iload_n C (pc := 15) 1 dX7_refuse_15 rfl ?_
    refine mm_sub C [0] rfl ?_
    exact w_X7_refuse_16 hd C _ _ _ _ hK
  · replace hK := mm_in hc hK
    refine mm_iconst C (pc := 11) (v := (1 : Int32)) dX7_refuse_11 (by decide) ?_
    refine mm_goto C (pc := 12) (tgt := 16) dX7_refuse_12 (by decide) ?_
    refine mm_sub C [0] rfl ?_
    exact w_X7_refuse_16 hd C _ _ _ _ hK
theorem wd_1255 : Cond.code yX9_isWord cX9_isWord 3 (some .boolean) ∈ lw_good := mm_wd 1255 (by decide +kernel) (by decide +kernel)
theorem tT_X9_isWord : mm_T yX9_isWord cX9_isWord 3 (some .boolean) 1 := ⟨wd_1255, wd_149, by decide +kernel, by decide +kernel, by decide +kernel, by decide +kernel⟩
theorem wd_1252 : Cond.methodLink RX7 91 yX9_isWord ∈ lw_good := mm_wd 1252 (by decide +kernel) (by decide +kernel)
theorem wd_1253 : Cond.instanceMethod yX9_isWord ∈ lw_good := mm_wd 1253 (by decide +kernel) (by decide +kernel)
theorem wd_1254 : Cond.selects RX9 yX9_isWord yX9_isWord ∈ lw_good := mm_wd 1254 (by decide +kernel) (by decide +kernel)
theorem wd_1289 : Cond.methodLink RX7 131 yX9_advance ∈ lw_good := mm_wd 1289 (by decide +kernel) (by decide +kernel)
theorem wd_1280 : Cond.code yX7_refuse cX7_refuse 2 (some .boolean) ∈ lw_good := mm_wd 1280 (by decide +kernel) (by decide +kernel)
theorem tT_X7_refuse : mm_T yX7_refuse cX7_refuse 2 (some .boolean) 1 := ⟨wd_1280, wd_148, by decide +kernel, by decide +kernel, by decide +kernel, by decide +kernel⟩
theorem wd_1277 : Cond.methodLink RX7 117 yX7_refuse ∈ lw_good := mm_wd 1277 (by decide +kernel) (by decide +kernel)
theorem wd_1279 : Cond.instanceMethod yX7_refuse ∈ lw_good := mm_wd 1279 (by decide +kernel) (by decide +kernel)
theorem wd_19 : Cond.selects RX7 yX7_refuse yX7_refuse ∈ lw_good := mm_wd 19 (by decide +kernel) (by decide +kernel)
def F_X7_takeWord (a0 : Option Nat) (a1 : Option Nat) (h : MH) : Option (Int32 × MH) := (gR h a0 7 0).bind fun v1 => mm_b2 (cV h v1 9 (F_X9_isWord v1 a1 h)) fun v5 h5 => if v5 = 0 then (mm_b2 (cV h5 a0 7 (F_X7_refuse a0 (2 : Int32) h5)) fun v13 h13 => rZ v13 h13) else ((gR h5 a0 7 0).bind fun v18 => (cV h5 v18 9 (F_X9_advance v18 h5)).bind fun h21 => rZ (1 : Int32) h21)
set_option maxRecDepth 20000 in
set_option maxHeartbeats 4000000 in
theorem S_X7_takeWord {d : Nat} (hd : 6 ≤ d) {a0 : Option Nat} {a1 : Option Nat} {h : MH} {r : Int32} {hz : MH} (hK : F_X7_takeWord a0 a1 h = some (r, hz)) : mm_M yX7_takeWord cX7_takeWord 2 (some .boolean) d [va_rf a0, va_rf a1] h (.inr (some (.int r))) hz := by
  refine mm_ofV (by decide +kernel) (by simp [lg_sl, mm_crf, mm_cti, mm_ctl]) (fun V C => ?_)
  rw [show lv_args 0 [va_rf a0, va_rf a1] = [(0, va_rf a0), (1, va_rf a1)] by simp [lv_args, mm_crf, mm_cti, mm_ctl]]
  unfold F_X7_takeWord at hK
  refine mm_aload_n C (pc := 0) 0 dX7_takeWord_0 rfl ?_
  replace hK := mm_bd hK; obtain ⟨v1, e1, hK⟩ := hK
  refine mm_getr C (pc := 1) (k := 0) inGX7 rfl (by decide) wd_351 dX7_takeWord_1 e1 ?_
  refine mm_aload_n C (pc := 4) 1 dX7_takeWord_4 rfl ?_
  replace hK := mm_b2s hK; obtain ⟨v5, h5, e5, hK⟩ := hK
  obtain ⟨o5, e5⟩ := cV_some e5
  refine mm_callV C (pc := 5) (d1 := 5) (As := [va_rf a1]) (st := []) (vk := (some (.int v5))) ((S_X9_isWord (by omega)) e5) tT_X9_isWord o5 (Or.inr ⟨_, rfl, rfl⟩) wd_1252 wd_1253 wd_1254 (by omega) (by decide) rfl (by simp [mm_crf, mm_cti, mm_ctl]) rfl dX7_takeWord_5 ?_
  show V _ _ (.int v5 :: _) _
  refine mm_if_ne C (pc := 8) (tgt := 17) dX7_takeWord_8 (by decide) (fun hc => ?_) (fun hc => ?_)
  · replace hK := mm_in hc hK
    refine mm_aload_n C (pc := 17) 0 dX7_takeWord_17 rfl ?_
    replace hK := mm_bd hK; obtain ⟨v18, e18, hK⟩ := hK
    refine mm_getr C (pc := 18) (k := 0) inGX7 rfl (by decide) wd_351 dX7_takeWord_18 e18 ?_
    replace hK := mm_bd hK; obtain ⟨h21, e21, hK⟩ := hK
    obtain ⟨o21, e21⟩ := cV_some e21
    refine mm_callV C (pc := 21) (d1 := 5) (As := []) (st := []) (vk := none) ((S_X9_advance (by omega)) e21) tT_X9_advance o21 (Or.inr ⟨_, rfl, rfl⟩) wd_1289 wd_1185 wd_1186 (by omega) (by decide) rfl (by simp [mm_crf, mm_cti, mm_ctl]) rfl dX7_takeWord_21 ?_
    show V _ _ [] _
    refine mm_iconst C (pc := 24) (v := (1 : Int32)) dX7_takeWord_24 (by decide) ?_
    replace hK := rZ_some hK; obtain ⟨hv25, hK⟩ := hK
    cases hK
    exact mm_zret C (pc := 25) rfl (mm_nrZ hv25) dX7_takeWord_25 rfl rfl
  · replace hK := mm_ip hc hK
    refine mm_aload_n C (pc := 11) 0 dX7_takeWord_11 rfl ?_
    refine mm_iconst C (pc := 12) (v := (2 : Int32)) dX7_takeWord_12 (by decide) ?_
    replace hK := mm_b2s hK; obtain ⟨v13, h13, e13, hK⟩ := hK
    obtain ⟨o13, e13⟩ := cV_some e13
    refine mm_callV C (pc := 13) (d1 := 2) (As := [.int (2 : Int32)]) (st := []) (vk := (some (.int v13))) ((S_X7_refuse (by omega)) e13) tT_X7_refuse o13 (Or.inr ⟨_, rfl, rfl⟩) wd_1277 wd_1279 wd_19 (by omega) (by decide) rfl (by simp [mm_crf, mm_cti, mm_ctl]) rfl dX7_takeWord_13 ?_
    show V _ _ (.int v13 :: _) _
    replace hK := rZ_some hK; obtain ⟨hv16, hK⟩ := hK
    cases hK
    exact mm_zret C (pc := 16) rfl (mm_nrZ hv16) dX7_takeWord_16 rfl rfl
def F_X9_isNumber_13 (s0 : Int32) (h : MH) : Option (Int32 × MH) := rZ s0 h
set_option maxRecDepth 20000 in
set_option maxHeartbeats 4000000 in
theorem w_X9_isNumber_13 {d : Nat} {V : Nat → List (Nat × Value) → List Value → MH → Prop} {r : Int32} {hz : MH} (hd : 1 ≤ d) (C : mm_C d yX9_isNumber cX9_isNumber 1 (some .boolean) (.inr (some (.int r))) hz V) (s0 : Int32) (h : MH) (hK : F_X9_isNumber_13 s0 h = some (r, hz)) : V 13 [] [.int s0] h := by
  unfold F_X9_isNumber_13 at hK
  replace hK := rZ_some hK; obtain ⟨hv13, hK⟩ := hK
  cases hK
  exact mm_zret C (pc := 13) rfl (mm_nrZ hv13) dX9_isNumber_13 rfl rfl
def F_X9_isNumber (a0 : Option Nat) (h : MH) : Option (Int32 × MH) := (gI h a0 9 4).bind fun v1 => if v1 = (3 : Int32) then (F_X9_isNumber_13 (1 : Int32) h) else (F_X9_isNumber_13 (0 : Int32) h)
set_option maxRecDepth 20000 in
set_option maxHeartbeats 4000000 in
theorem S_X9_isNumber {d : Nat} (hd : 1 ≤ d) {a0 : Option Nat} {h : MH} {r : Int32} {hz : MH} (hK : F_X9_isNumber a0 h = some (r, hz)) : mm_M yX9_isNumber cX9_isNumber 1 (some .boolean) d [va_rf a0] h (.inr (some (.int r))) hz := by
  refine mm_ofV (by decide +kernel) (by simp [lg_sl, mm_crf, mm_cti, mm_ctl]) (fun V C => ?_)
  rw [show lv_args 0 [va_rf a0] = [(0, va_rf a0)] by simp [lv_args, mm_crf, mm_cti, mm_ctl]]
  unfold F_X9_isNumber at hK
  refine mm_aload_n C (pc := 0) 0 dX9_isNumber_0 rfl ?_
  replace hK := mm_bd hK; obtain ⟨v1, e1, hK⟩ := hK
  refine mm_geti C (pc := 1) (k := 4) inGX9 rfl (by decide) wd_332 dX9_isNumber_1 e1 ?_
  refine mm_iconst C (pc := 4) (v := (3 : Int32)) dX9_isNumber_4 (by decide) ?_
  refine mm_icmp_ne C (pc := 5) (tgt := 12) dX9_isNumber_5 (by decide) (fun hc => ?_) (fun hc => ?_)
  · replace hK := mm_in hc hK
    refine mm_iconst C (pc := 12) (v := (0 : Int32)) dX9_isNumber_12 (by decide) ?_
    refine mm_sub C [] rfl ?_
    exact w_X9_isNumber_13 hd C _ _ hK
  · replace hK := mm_ip hc hK
    refine mm_iconst C (pc := 8) (v := (1 : Int32)) dX9_isNumber_8 (by decide) ?_
    refine mm_goto C (pc := 9) (tgt := 13) dX9_isNumber_9 (by decide) ?_
    refine mm_sub C [] rfl ?_
    exact w_X9_isNumber_13 hd C _ _ hK
def F_X9_number_44 (l1 : Int32) (h : MH) : Option (Int32 × MH) := some (l1, h)
set_option maxRecDepth 20000 in
set_option maxHeartbeats 4000000 in
theorem w_X9_number_44 {d : Nat} {V : Nat → List (Nat × Value) → List Value → MH → Prop} {r : Int32} {hz : MH} (hd : 1 ≤ d) (C : mm_C d yX9_number cX9_number 3 (some .int) (.inr (some (.int r))) hz V) (l1 : Int32) (h : MH) (hK : F_X9_number_44 l1 h = some (r, hz)) : V 44 [(1, .int l1)] [] h := by
  unfold F_X9_number_44 at hK
  refine mm_iload_n C (pc := 44) 0 dX9_number_44 rfl ?_
  cases hK
  exact mm_iret C (pc := 45) rfl dX9_number_45 rfl rfl
def F_X9_number_7 : Nat → Option Nat → Int32 → Int32 → MH → Option (Int32 × MH)
  | 0 => fun _ _ _ _ => none
  | n + 1 => fun l0 l1 l2 h => (gI h l0 9 2).bind fun v9 => if v9 ≤ l2 then (F_X9_number_44 l1 h) else ((gI h l0 9 1).bind fun v17 => if v17 ≤ l2 then (F_X9_number_44 l1 h) else ((gR h l0 9 0).bind fun v28 => (aI h v28 2 l2).bind fun v32 => F_X9_number_7 n l0 ((((10 : Int32) * l1) + v32) - (48 : Int32)) (l2 + (1 : Int32)) h))
set_option maxRecDepth 20000 in
set_option maxHeartbeats 4000000 in
theorem w_X9_number_7 {d : Nat} {V : Nat → List (Nat × Value) → List Value → MH → Prop} {r : Int32} {hz : MH} (hd : 1 ≤ d) (C : mm_C d yX9_number cX9_number 3 (some .int) (.inr (some (.int r))) hz V) : ∀ (n : Nat) (l0 : Option Nat) (l1 : Int32) (l2 : Int32) (h : MH), F_X9_number_7 n l0 l1 l2 h = some (r, hz) → V 7 [(0, va_rf l0), (1, .int l1), (2, .int l2)] [] h := by
  intro n
  induction n with
  | zero => intro l0 l1 l2 h hK; cases hK
  | succ n ih =>
    intro l0 l1 l2 h hK
    replace hK : ((gI h l0 9 2).bind fun v9 => if v9 ≤ l2 then (F_X9_number_44 l1 h) else ((gI h l0 9 1).bind fun v17 => if v17 ≤ l2 then (F_X9_number_44 l1 h) else ((gR h l0 9 0).bind fun v28 => (aI h v28 2 l2).bind fun v32 => F_X9_number_7 n l0 ((((10 : Int32) * l1) + v32) - (48 : Int32)) (l2 + (1 : Int32)) h))) = some (r, hz) := hK
    refine mm_iload_n C (pc := 7) 2 dX9_number_7 rfl ?_
    refine mm_aload_n C (pc := 8) 0 dX9_number_8 rfl ?_
    replace hK := mm_bd hK; obtain ⟨v9, e9, hK⟩ := hK
    refine mm_geti C (pc := 9) (k := 2) inGX9 rfl (by decide) wd_330 dX9_number_9 e9 ?_
    refine mm_icmp_ge C (pc := 12) (tgt := 44) dX9_number_12 (by decide) (fun hc => ?_) (fun hc => ?_)
    · replace hK := mm_ip hc hK
      refine mm_sub C [1] rfl ?_
      exact w_X9_number_44 hd C _ _ hK
    · replace hK := mm_in hc hK
      refine mm_iload_n C (pc := 15) 2 dX9_number_15 rfl ?_
      refine mm_aload_n C (pc := 16) 0 dX9_number_16 rfl ?_
      replace hK := mm_bd hK; obtain ⟨v17, e17, hK⟩ := hK
      refine mm_geti C (pc := 17) (k := 1) inGX9 rfl (by decide) wd_329 dX9_number_17 e17 ?_
      refine mm_icmp_ge C (pc := 20) (tgt := 44) dX9_number_20 (by decide) (fun hc => ?_) (fun hc => ?_)
      · replace hK := mm_ip hc hK
        refine mm_sub C [1] rfl ?_
        exact w_X9_number_44 hd C _ _ hK
      · replace hK := mm_in hc hK
        refine mm_bipush C (pc := 23) (v := (10 : Int32)) dX9_number_23 (by decide) ?_
        refine mm_iload_n C (pc := 25) 1 dX9_number_25 rfl ?_
        refine mm_imul C (pc := 26) dX9_number_26 ?_
        refine mm_aload_n C (pc := 27) 0 dX9_number_27 rfl ?_
        replace hK := mm_bd hK; obtain ⟨v28, e28, hK⟩ := hK
        refine mm_getr C (pc := 28) (k := 0) inGX9 rfl (by decide) wd_328 dX9_number_28 e28 ?_
        refine mm_iload_n C (pc := 31) 2 dX9_number_31 rfl ?_
        replace hK := mm_bd hK; obtain ⟨v32, e32, hK⟩ := hK
        refine mm_bald C (pc := 32) dX9_number_32 e32 ?_
        refine mm_iadd C (pc := 33) dX9_number_33 ?_
        refine mm_bipush C (pc := 34) (v := (48 : Int32)) dX9_number_34 (by decide) ?_
        refine mm_isub C (pc := 36) dX9_number_36 ?_
        refine mm_istore_n C (pc := 37) (i := 1) (lv' := [(1, .int ((((10 : Int32) * l1) + v32) - (48 : Int32))), (0, va_rf l0), (2, .int l2)]) dX9_number_37 rfl (by decide) (by simp [mm_crf]) ?_
        refine mm_iinc C (pc := 38) (v := (l2 + (1 : Int32))) (lv' := [(2, .int (l2 + (1 : Int32))), (1, .int ((((10 : Int32) * l1) + v32) - (48 : Int32))), (0, va_rf l0)]) 2 dX9_number_38 rfl rfl (by decide) rfl ?_
        refine mm_goto C (pc := 41) (tgt := 7) dX9_number_41 (by decide) ?_
        refine mm_sub C [2, 1, 0] rfl ?_
        exact ih _ _ _ _ hK
def F_X9_number (a0 : Option Nat) (h : MH) : Option (Int32 × MH) := (gI h a0 9 3).bind fun v3 => F_X9_number_7 mm_N a0 (0 : Int32) v3 h
set_option maxRecDepth 20000 in
set_option maxHeartbeats 4000000 in
theorem S_X9_number {d : Nat} (hd : 1 ≤ d) {a0 : Option Nat} {h : MH} {r : Int32} {hz : MH} (hK : F_X9_number a0 h = some (r, hz)) : mm_M yX9_number cX9_number 3 (some .int) d [va_rf a0] h (.inr (some (.int r))) hz := by
  refine mm_ofV (by decide +kernel) (by simp [lg_sl, mm_crf, mm_cti, mm_ctl]) (fun V C => ?_)
  rw [show lv_args 0 [va_rf a0] = [(0, va_rf a0)] by simp [lv_args, mm_crf, mm_cti, mm_ctl]]
  unfold F_X9_number at hK
  refine mm_iconst C (pc := 0) (v := (0 : Int32)) dX9_number_0 (by decide) ?_
  refine mm_istore_n C (pc := 1) (i := 1) (lv' := [(1, .int (0 : Int32)), (0, va_rf a0)]) dX9_number_1 rfl (by decide) (by simp [mm_crf]) ?_
  refine mm_aload_n C (pc := 2) 1 dX9_number_2 rfl ?_
  replace hK := mm_bd hK; obtain ⟨v3, e3, hK⟩ := hK
  refine mm_geti C (pc := 3) (k := 3) inGX9 rfl (by decide) wd_331 dX9_number_3 e3 ?_
  refine mm_istore_n C (pc := 6) (i := 2) (lv' := [(2, .int v3), (1, .int (0 : Int32)), (0, va_rf a0)]) dX9_number_6 rfl (by decide) rfl ?_
  refine mm_sub C [2, 1, 0] rfl ?_
  exact w_X9_number_7 hd C _ _ _ _ _ hK
theorem wd_1297 : Cond.code yX9_isNumber cX9_isNumber 1 (some .boolean) ∈ lw_good := mm_wd 1297 (by decide +kernel) (by decide +kernel)
theorem tT_X9_isNumber : mm_T yX9_isNumber cX9_isNumber 1 (some .boolean) 0 := ⟨wd_1297, wd_149, by decide +kernel, by decide +kernel, by decide +kernel, by decide +kernel⟩
theorem wd_1294 : Cond.methodLink RX7 138 yX9_isNumber ∈ lw_good := mm_wd 1294 (by decide +kernel) (by decide +kernel)
theorem wd_1295 : Cond.instanceMethod yX9_isNumber ∈ lw_good := mm_wd 1295 (by decide +kernel) (by decide +kernel)
theorem wd_1296 : Cond.selects RX9 yX9_isNumber yX9_isNumber ∈ lw_good := mm_wd 1296 (by decide +kernel) (by decide +kernel)
theorem wd_1301 : Cond.code yX9_number cX9_number 3 (some .int) ∈ lw_good := mm_wd 1301 (by decide +kernel) (by decide +kernel)
theorem tT_X9_number : mm_T yX9_number cX9_number 3 (some .int) 0 := ⟨wd_1301, wd_149, by decide +kernel, by decide +kernel, by decide +kernel, by decide +kernel⟩
theorem wd_1298 : Cond.methodLink RX7 141 yX9_number ∈ lw_good := mm_wd 1298 (by decide +kernel) (by decide +kernel)
theorem wd_1299 : Cond.instanceMethod yX9_number ∈ lw_good := mm_wd 1299 (by decide +kernel) (by decide +kernel)
theorem wd_1300 : Cond.selects RX9 yX9_number yX9_number ∈ lw_good := mm_wd 1300 (by decide +kernel) (by decide +kernel)
def F_X7_takeNumber_45 (l0 : Option Nat) (h : MH) : Option (Int32 × MH) := mm_b2 (cV h l0 7 (F_X7_refuse l0 (3 : Int32) h)) fun v47 h47 => some (((-1) : Int32), h47)
set_option maxRecDepth 20000 in
set_option maxHeartbeats 4000000 in
theorem w_X7_takeNumber_45 {d : Nat} {V : Nat → List (Nat × Value) → List Value → MH → Prop} {r : Int32} {hz : MH} (hd : 6 ≤ d) (C : mm_C d yX7_takeNumber cX7_takeNumber 5 (some .int) (.inr (some (.int r))) hz V) (l0 : Option Nat) (h : MH) (hK : F_X7_takeNumber_45 l0 h = some (r, hz)) : V 45 [(0, va_rf l0)] [] h := by
  unfold F_X7_takeNumber_45 at hK
  refine mm_aload_n C (pc := 45) 0 dX7_takeNumber_45 rfl ?_
  refine mm_iconst C (pc := 46) (v := (3 : Int32)) dX7_takeNumber_46 (by decide) ?_
  replace hK := mm_b2s hK; obtain ⟨v47, h47, e47, hK⟩ := hK
  obtain ⟨o47, e47⟩ := cV_some e47
  refine mm_callV C (pc := 47) (d1 := 2) (As := [.int (3 : Int32)]) (st := []) (vk := (some (.int v47))) ((S_X7_refuse (by omega)) e47) tT_X7_refuse o47 (Or.inr ⟨_, rfl, rfl⟩) wd_1277 wd_1279 wd_19 (by omega) (by decide) rfl (by simp [mm_crf, mm_cti, mm_ctl]) rfl dX7_takeNumber_47 ?_
  show V _ _ (.int v47 :: _) _
  refine mm_pop C (pc := 50) dX7_takeNumber_50 rfl ?_
  refine mm_iconst C (pc := 51) (v := ((-1) : Int32)) dX7_takeNumber_51 (by decide) ?_
  cases hK
  exact mm_iret C (pc := 52) rfl dX7_takeNumber_52 rfl rfl
def F_X7_takeNumber (a0 : Option Nat) (a1 : Int32) (a2 : Int32) (a3 : Int32) (h : MH) : Option (Int32 × MH) := (gR h a0 7 0).bind fun v1 => mm_b2 (cV h v1 9 (F_X9_isNumber v1 h)) fun v4 h4 => if v4 = 0 then (mm_b2 (cV h4 a0 7 (F_X7_refuse a0 (2 : Int32) h4)) fun v12 h12 => some (((-1) : Int32), h12)) else ((gR h4 a0 7 0).bind fun v19 => mm_b2 (cV h4 v19 9 (F_X9_number v19 h4)) fun v22 h22 => if v22 < a1 then (F_X7_takeNumber_45 a0 h22) else (if a2 < v22 then (F_X7_takeNumber_45 a0 h22) else (if v22 = a3 then (F_X7_takeNumber_45 a0 h22) else ((gR h22 a0 7 0).bind fun v54 => (cV h22 v54 9 (F_X9_advance v54 h22)).bind fun h57 => some (v22, h57)))))
set_option maxRecDepth 20000 in
set_option maxHeartbeats 4000000 in
theorem S_X7_takeNumber {d : Nat} (hd : 6 ≤ d) {a0 : Option Nat} {a1 : Int32} {a2 : Int32} {a3 : Int32} {h : MH} {r : Int32} {hz : MH} (hK : F_X7_takeNumber a0 a1 a2 a3 h = some (r, hz)) : mm_M yX7_takeNumber cX7_takeNumber 5 (some .int) d [va_rf a0, .int a1, .int a2, .int a3] h (.inr (some (.int r))) hz := by
  refine mm_ofV (by decide +kernel) (by simp [lg_sl, mm_crf, mm_cti, mm_ctl]) (fun V C => ?_)
  rw [show lv_args 0 [va_rf a0, .int a1, .int a2, .int a3] = [(0, va_rf a0), (1, .int a1), (2, .int a2), (3, .int a3)] by simp [lv_args, mm_crf, mm_cti, mm_ctl]]
  unfold F_X7_takeNumber at hK
  refine mm_aload_n C (pc := 0) 0 dX7_takeNumber_0 rfl ?_
  replace hK := mm_bd hK; obtain ⟨v1, e1, hK⟩ := hK
  refine mm_getr C (pc := 1) (k := 0) inGX7 rfl (by decide) wd_351 dX7_takeNumber_1 e1 ?_
  replace hK := mm_b2s hK; obtain ⟨v4, h4, e4, hK⟩ := hK
  obtain ⟨o4, e4⟩ := cV_some e4
  refine mm_callV C (pc := 4) (d1 := 1) (As := []) (st := []) (vk := (some (.int v4))) ((S_X9_isNumber (by omega)) e4) tT_X9_isNumber o4 (Or.inr ⟨_, rfl, rfl⟩) wd_1294 wd_1295 wd_1296 (by omega) (by decide) rfl (by simp [mm_crf, mm_cti, mm_ctl]) rfl dX7_takeNumber_4 ?_
  show V _ _ (.int v4 :: _) _
  refine mm_if_ne C (pc := 7) (tgt := 18) dX7_takeNumber_7 (by decide) (fun hc => ?_) (fun hc => ?_)
  · replace hK := mm_in hc hK
    refine mm_aload_n C (pc := 18) 0 dX7_takeNumber_18 rfl ?_
    replace hK := mm_bd hK; obtain ⟨v19, e19, hK⟩ := hK
    refine mm_getr C (pc := 19) (k := 0) inGX7 rfl (by decide) wd_351 dX7_takeNumber_19 e19 ?_
    replace hK := mm_b2s hK; obtain ⟨v22, h22, e22, hK⟩ := hK
    obtain ⟨o22, e22⟩ := cV_some e22
    refine mm_callV C (pc := 22) (d1 := 1) (As := []) (st := []) (vk := (some (.int v22))) ((S_X9_number (by omega)) e22) tT_X9_number o22 (Or.inr ⟨_, rfl, rfl⟩) wd_1298 wd_1299 wd_1300 (by omega) (by decide) rfl (by simp [mm_crf, mm_cti, mm_ctl]) rfl dX7_takeNumber_22 ?_
    show V _ _ (.int v22 :: _) _
    refine mm_istore C (pc := 25) (i := 4) (lv' := [(4, .int v22), (0, va_rf a0), (1, .int a1), (2, .int a2), (3, .int a3)]) dX7_takeNumber_25 (by decide) rfl ?_
    refine mm_iload C (pc := 27) 0 dX7_takeNumber_27 rfl ?_
    refine mm_iload_n C (pc := 29) 2 dX7_takeNumber_29 rfl ?_
    refine mm_icmp_lt C (pc := 30) (tgt := 45) dX7_takeNumber_30 (by decide) (fun hc => ?_) (fun hc => ?_)
    · replace hK := mm_ip hc hK
      refine mm_sub C [1] rfl ?_
      exact w_X7_takeNumber_45 hd C _ _ hK
    · replace hK := mm_in hc hK
      refine mm_iload C (pc := 33) 0 dX7_takeNumber_33 rfl ?_
      refine mm_iload_n C (pc := 35) 3 dX7_takeNumber_35 rfl ?_
      refine mm_icmp_gt C (pc := 36) (tgt := 45) dX7_takeNumber_36 (by decide) (fun hc => ?_) (fun hc => ?_)
      · replace hK := mm_ip hc hK
        refine mm_sub C [1] rfl ?_
        exact w_X7_takeNumber_45 hd C _ _ hK
      · replace hK := mm_in hc hK
        refine mm_iload C (pc := 39) 0 dX7_takeNumber_39 rfl ?_
        refine mm_iload_n C (pc := 41) 4 dX7_takeNumber_41 rfl ?_
        refine mm_icmp_ne C (pc := 42) (tgt := 53) dX7_takeNumber_42 (by decide) (fun hc => ?_) (fun hc => ?_)
        · replace hK := mm_in hc hK
          refine mm_aload_n C (pc := 53) 1 dX7_takeNumber_53 rfl ?_
          replace hK := mm_bd hK; obtain ⟨v54, e54, hK⟩ := hK
          refine mm_getr C (pc := 54) (k := 0) inGX7 rfl (by decide) wd_351 dX7_takeNumber_54 e54 ?_
          replace hK := mm_bd hK; obtain ⟨h57, e57, hK⟩ := hK
          obtain ⟨o57, e57⟩ := cV_some e57
          refine mm_callV C (pc := 57) (d1 := 5) (As := []) (st := []) (vk := none) ((S_X9_advance (by omega)) e57) tT_X9_advance o57 (Or.inr ⟨_, rfl, rfl⟩) wd_1289 wd_1185 wd_1186 (by omega) (by decide) rfl (by simp [mm_crf, mm_cti, mm_ctl]) rfl dX7_takeNumber_57 ?_
          show V _ _ [] _
          refine mm_iload C (pc := 60) 0 dX7_takeNumber_60 rfl ?_
          cases hK
          exact mm_iret C (pc := 62) rfl dX7_takeNumber_62 rfl rfl
        · replace hK := mm_ip hc hK
          refine mm_sub C [1] rfl ?_
          exact w_X7_takeNumber_45 hd C _ _ hK
  · replace hK := mm_ip hc hK
    refine mm_aload_n C (pc := 10) 0 dX7_takeNumber_10 rfl ?_
    refine mm_iconst C (pc := 11) (v := (2 : Int32)) dX7_takeNumber_11 (by decide) ?_
    replace hK := mm_b2s hK; obtain ⟨v12, h12, e12, hK⟩ := hK
    obtain ⟨o12, e12⟩ := cV_some e12
    refine mm_callV C (pc := 12) (d1 := 2) (As := [.int (2 : Int32)]) (st := []) (vk := (some (.int v12))) ((S_X7_refuse (by omega)) e12) tT_X7_refuse o12 (Or.inr ⟨_, rfl, rfl⟩) wd_1277 wd_1279 wd_19 (by omega) (by decide) rfl (by simp [mm_crf, mm_cti, mm_ctl]) rfl dX7_takeNumber_12 ?_
    show V _ _ (.int v12 :: _) _
    refine mm_pop C (pc := 15) dX7_takeNumber_15 rfl ?_
    refine mm_iconst C (pc := 16) (v := ((-1) : Int32)) dX7_takeNumber_16 (by decide) ?_
    cases hK
    exact mm_iret C (pc := 17) rfl dX7_takeNumber_17 rfl rfl
theorem wd_1251 : Cond.code yX7_takeWord cX7_takeWord 2 (some .boolean) ∈ lw_good := mm_wd 1251 (by decide +kernel) (by decide +kernel)
theorem tT_X7_takeWord : mm_T yX7_takeWord cX7_takeWord 2 (some .boolean) 1 := ⟨wd_1251, wd_148, by decide +kernel, by decide +kernel, by decide +kernel, by decide +kernel⟩
theorem wd_1248 : Cond.methodLink RX7 148 yX7_takeWord ∈ lw_good := mm_wd 1248 (by decide +kernel) (by decide +kernel)
theorem wd_1250 : Cond.instanceMethod yX7_takeWord ∈ lw_good := mm_wd 1250 (by decide +kernel) (by decide +kernel)
theorem wd_18 : Cond.selects RX7 yX7_takeWord yX7_takeWord ∈ lw_good := mm_wd 18 (by decide +kernel) (by decide +kernel)
theorem wd_1293 : Cond.code yX7_takeNumber cX7_takeNumber 5 (some .int) ∈ lw_good := mm_wd 1293 (by decide +kernel) (by decide +kernel)
theorem tT_X7_takeNumber : mm_T yX7_takeNumber cX7_takeNumber 5 (some .int) 3 := ⟨wd_1293, wd_148, by decide +kernel, by decide +kernel, by decide +kernel, by decide +kernel⟩
theorem wd_1290 : Cond.methodLink RX7 151 yX7_takeNumber ∈ lw_good := mm_wd 1290 (by decide +kernel) (by decide +kernel)
theorem wd_1292 : Cond.instanceMethod yX7_takeNumber ∈ lw_good := mm_wd 1292 (by decide +kernel) (by decide +kernel)
theorem wd_20 : Cond.selects RX7 yX7_takeNumber yX7_takeNumber ∈ lw_good := mm_wd 20 (by decide +kernel) (by decide +kernel)
def F_X7_readHead (a0 : Option Nat) (h : MH) : Option (Int32 × MH) := mm_b2 (cV h a0 7 (F_X7_takeWord a0 (some 3 : Option Nat) h)) fun v3 h3 => if v3 = 0 then (rZ (0 : Int32) h3) else (mm_b2 (cV h3 a0 7 (F_X7_takeNumber a0 (2 : Int32) (8 : Int32) ((-1) : Int32) h3)) fun v16 h16 => if v16 = ((-1) : Int32) then (rZ (0 : Int32) h16) else ((pI h16 a0 7 6 v16).bind fun h29 => rZ (1 : Int32) h29))
set_option maxRecDepth 20000 in
set_option maxHeartbeats 4000000 in
theorem S_X7_readHead {d : Nat} (hd : 7 ≤ d) {a0 : Option Nat} {h : MH} {r : Int32} {hz : MH} (hK : F_X7_readHead a0 h = some (r, hz)) : mm_M yX7_readHead cX7_readHead 2 (some .boolean) d [va_rf a0] h (.inr (some (.int r))) hz := by
  refine mm_ofV (by decide +kernel) (by simp [lg_sl, mm_crf, mm_cti, mm_ctl]) (fun V C => ?_)
  rw [show lv_args 0 [va_rf a0] = [(0, va_rf a0)] by simp [lv_args, mm_crf, mm_cti, mm_ctl]]
  unfold F_X7_readHead at hK
  refine mm_aload_n C (pc := 0) 0 dX7_readHead_0 rfl ?_
  refine mm_ldcS C (pc := 1) (i := 3) (by decide) (by rfl) dX7_readHead_1 ?_
  replace hK := mm_b2s hK; obtain ⟨v3, h3, e3, hK⟩ := hK
  obtain ⟨o3, e3⟩ := cV_some e3
  refine mm_callV C (pc := 3) (d1 := 6) (As := [va_rf (some 3 : Option Nat)]) (st := []) (vk := (some (.int v3))) ((S_X7_takeWord (by omega)) e3) tT_X7_takeWord o3 (Or.inr ⟨_, rfl, rfl⟩) wd_1248 wd_1250 wd_18 (by omega) (by decide) rfl (by simp [mm_crf, mm_cti, mm_ctl]) rfl dX7_readHead_3 ?_
  show V _ _ (.int v3 :: _) _
  refine mm_if_ne C (pc := 6) (tgt := 11) dX7_readHead_6 (by decide) (fun hc => ?_) (fun hc => ?_)
  · replace hK := mm_in hc hK
    refine mm_aload_n C (pc := 11) 0 dX7_readHead_11 rfl ?_
    refine mm_iconst C (pc := 12) (v := (2 : Int32)) dX7_readHead_12 (by decide) ?_
    refine mm_bipush C (pc := 13) (v := (8 : Int32)) dX7_readHead_13 (by decide) ?_
    refine mm_iconst C (pc := 15) (v := ((-1) : Int32)) dX7_readHead_15 (by decide) ?_
    replace hK := mm_b2s hK; obtain ⟨v16, h16, e16, hK⟩ := hK
    obtain ⟨o16, e16⟩ := cV_some e16
    refine mm_callV C (pc := 16) (d1 := 6) (As := [.int (2 : Int32), .int (8 : Int32), .int ((-1) : Int32)]) (st := []) (vk := (some (.int v16))) ((S_X7_takeNumber (by omega)) e16) tT_X7_takeNumber o16 (Or.inr ⟨_, rfl, rfl⟩) wd_1290 wd_1292 wd_20 (by omega) (by decide) rfl (by simp [mm_crf, mm_cti, mm_ctl]) rfl dX7_readHead_16 ?_
    show V _ _ (.int v16 :: _) _
    refine mm_istore_n C (pc := 19) (i := 1) (lv' := [(1, .int v16), (0, va_rf a0)]) dX7_readHead_19 rfl (by decide) (by simp [mm_crf]) ?_
    refine mm_iload_n C (pc := 20) 0 dX7_readHead_20 rfl ?_
    refine mm_iconst C (pc := 21) (v := ((-1) : Int32)) dX7_readHead_21 (by decide) ?_
    refine mm_icmp_ne C (pc := 22) (tgt := 27) dX7_readHead_22 (by decide) (fun hc => ?_) (fun hc => ?_)
    · replace hK := mm_in hc hK
      refine mm_aload_n C (pc := 27) 1 dX7_readHead_27 rfl ?_
      refine mm_iload_n C (pc := 28) 0 dX7_readHead_28 rfl ?_
      replace hK := mm_bd hK; obtain ⟨h29, e29, hK⟩ := hK
      refine mm_puti C (pc := 29) (k := 6) false (fun z => by cases z) inGX7 tyX7 tyX7_ok nmX7 rfl (by decide) wd_357 rfl rfl dX7_readHead_29 e29 ?_
      refine mm_iconst C (pc := 32) (v := (1 : Int32)) dX7_readHead_32 (by decide) ?_
      replace hK := rZ_some hK; obtain ⟨hv33, hK⟩ := hK
      cases hK
      exact mm_zret C (pc := 33) rfl (mm_nrZ hv33) dX7_readHead_33 rfl rfl
    · replace hK := mm_ip hc hK
      refine mm_iconst C (pc := 25) (v := (0 : Int32)) dX7_readHead_25 (by decide) ?_
      replace hK := rZ_some hK; obtain ⟨hv26, hK⟩ := hK
      cases hK
      exact mm_zret C (pc := 26) rfl (mm_nrZ hv26) dX7_readHead_26 rfl rfl
  · replace hK := mm_ip hc hK
    refine mm_iconst C (pc := 9) (v := (0 : Int32)) dX7_readHead_9 (by decide) ?_
    replace hK := rZ_some hK; obtain ⟨hv10, hK⟩ := hK
    cases hK
    exact mm_zret C (pc := 10) rfl (mm_nrZ hv10) dX7_readHead_10 rfl rfl
def F_X9_isSign_21 (s0 : Int32) (h : MH) : Option (Int32 × MH) := rZ s0 h
set_option maxRecDepth 20000 in
set_option maxHeartbeats 4000000 in
theorem w_X9_isSign_21 {d : Nat} {V : Nat → List (Nat × Value) → List Value → MH → Prop} {r : Int32} {hz : MH} (hd : 1 ≤ d) (C : mm_C d yX9_isSign cX9_isSign 2 (some .boolean) (.inr (some (.int r))) hz V) (s0 : Int32) (h : MH) (hK : F_X9_isSign_21 s0 h = some (r, hz)) : V 21 [] [.int s0] h := by
  unfold F_X9_isSign_21 at hK
  replace hK := rZ_some hK; obtain ⟨hv21, hK⟩ := hK
  cases hK
  exact mm_zret C (pc := 21) rfl (mm_nrZ hv21) dX9_isSign_21 rfl rfl
def F_X9_isSign_20 (h : MH) : Option (Int32 × MH) := F_X9_isSign_21 (0 : Int32) h
set_option maxRecDepth 20000 in
set_option maxHeartbeats 4000000 in
theorem w_X9_isSign_20 {d : Nat} {V : Nat → List (Nat × Value) → List Value → MH → Prop} {r : Int32} {hz : MH} (hd : 1 ≤ d) (C : mm_C d yX9_isSign cX9_isSign 2 (some .boolean) (.inr (some (.int r))) hz V) (h : MH) (hK : F_X9_isSign_20  h = some (r, hz)) : V 20 [] [] h := by
  unfold F_X9_isSign_20 at hK
  refine mm_iconst C (pc := 20) (v := (0 : Int32)) dX9_isSign_20 (by decide) ?_
  exact w_X9_isSign_21 hd C _ _ hK
def F_X9_isSign (a0 : Option Nat) (a1 : Int32) (h : MH) : Option (Int32 × MH) := (gI h a0 9 4).bind fun v1 => if v1 = (4 : Int32) then ((gI h a0 9 5).bind fun v9 => if v9 = a1 then (F_X9_isSign_21 (1 : Int32) h) else (F_X9_isSign_20 h)) else (F_X9_isSign_20 h)
set_option maxRecDepth 20000 in
set_option maxHeartbeats 4000000 in
theorem S_X9_isSign {d : Nat} (hd : 1 ≤ d) {a0 : Option Nat} {a1 : Int32} {h : MH} {r : Int32} {hz : MH} (hK : F_X9_isSign a0 a1 h = some (r, hz)) : mm_M yX9_isSign cX9_isSign 2 (some .boolean) d [va_rf a0, .int a1] h (.inr (some (.int r))) hz := by
  refine mm_ofV (by decide +kernel) (by simp [lg_sl, mm_crf, mm_cti, mm_ctl]) (fun V C => ?_)
  rw [show lv_args 0 [va_rf a0, .int a1] = [(0, va_rf a0), (1, .int a1)] by simp [lv_args, mm_crf, mm_cti, mm_ctl]]
  unfold F_X9_isSign at hK
  refine mm_aload_n C (pc := 0) 0 dX9_isSign_0 rfl ?_
  replace hK := mm_bd hK; obtain ⟨v1, e1, hK⟩ := hK
  refine mm_geti C (pc := 1) (k := 4) inGX9 rfl (by decide) wd_332 dX9_isSign_1 e1 ?_
  refine mm_iconst C (pc := 4) (v := (4 : Int32)) dX9_isSign_4 (by decide) ?_
  refine mm_icmp_ne C (pc := 5) (tgt := 20) dX9_isSign_5 (by decide) (fun hc => ?_) (fun hc => ?_)
  · replace hK := mm_in hc hK
    refine mm_sub C [] rfl ?_
    exact w_X9_isSign_20 hd C _ hK
  · replace hK := mm_ip hc hK
    refine mm_aload_n C (pc := 8) 0 dX9_isSign_8 rfl ?_
    replace hK := mm_bd hK; obtain ⟨v9, e9, hK⟩ := hK
    refine mm_geti C (pc := 9) (k := 5) inGX9 rfl (by decide) wd_333 dX9_isSign_9 e9 ?_
    refine mm_iload_n C (pc := 12) 1 dX9_isSign_12 rfl ?_
    refine mm_icmp_ne C (pc := 13) (tgt := 20) dX9_isSign_13 (by decide) (fun hc => ?_) (fun hc => ?_)
    · replace hK := mm_in hc hK
      refine mm_sub C [] rfl ?_
      exact w_X9_isSign_20 hd C _ hK
    · replace hK := mm_ip hc hK
      refine mm_iconst C (pc := 16) (v := (1 : Int32)) dX9_isSign_16 (by decide) ?_
      refine mm_goto C (pc := 17) (tgt := 21) dX9_isSign_17 (by decide) ?_
      refine mm_sub C [] rfl ?_
      exact w_X9_isSign_21 hd C _ _ hK
theorem wd_1313 : Cond.code yX9_isSign cX9_isSign 2 (some .boolean) ∈ lw_good := mm_wd 1313 (by decide +kernel) (by decide +kernel)
theorem tT_X9_isSign : mm_T yX9_isSign cX9_isSign 2 (some .boolean) 1 := ⟨wd_1313, wd_149, by decide +kernel, by decide +kernel, by decide +kernel, by decide +kernel⟩
theorem wd_1310 : Cond.methodLink RX7 134 yX9_isSign ∈ lw_good := mm_wd 1310 (by decide +kernel) (by decide +kernel)
theorem wd_1311 : Cond.instanceMethod yX9_isSign ∈ lw_good := mm_wd 1311 (by decide +kernel) (by decide +kernel)
theorem wd_1312 : Cond.selects RX9 yX9_isSign yX9_isSign ∈ lw_good := mm_wd 1312 (by decide +kernel) (by decide +kernel)
def F_X7_takeSign (a0 : Option Nat) (a1 : Int32) (h : MH) : Option (Int32 × MH) := (gR h a0 7 0).bind fun v1 => mm_b2 (cV h v1 9 (F_X9_isSign v1 a1 h)) fun v5 h5 => if v5 = 0 then (mm_b2 (cV h5 a0 7 (F_X7_refuse a0 (2 : Int32) h5)) fun v13 h13 => rZ v13 h13) else ((gR h5 a0 7 0).bind fun v18 => (cV h5 v18 9 (F_X9_advance v18 h5)).bind fun h21 => rZ (1 : Int32) h21)
set_option maxRecDepth 20000 in
set_option maxHeartbeats 4000000 in
theorem S_X7_takeSign {d : Nat} (hd : 6 ≤ d) {a0 : Option Nat} {a1 : Int32} {h : MH} {r : Int32} {hz : MH} (hK : F_X7_takeSign a0 a1 h = some (r, hz)) : mm_M yX7_takeSign cX7_takeSign 2 (some .boolean) d [va_rf a0, .int a1] h (.inr (some (.int r))) hz := by
  refine mm_ofV (by decide +kernel) (by simp [lg_sl, mm_crf, mm_cti, mm_ctl]) (fun V C => ?_)
  rw [show lv_args 0 [va_rf a0, .int a1] = [(0, va_rf a0), (1, .int a1)] by simp [lv_args, mm_crf, mm_cti, mm_ctl]]
  unfold F_X7_takeSign at hK
  refine mm_aload_n C (pc := 0) 0 dX7_takeSign_0 rfl ?_
  replace hK := mm_bd hK; obtain ⟨v1, e1, hK⟩ := hK
  refine mm_getr C (pc := 1) (k := 0) inGX7 rfl (by decide) wd_351 dX7_takeSign_1 e1 ?_
  refine mm_iload_n C (pc := 4) 1 dX7_takeSign_4 rfl ?_
  replace hK := mm_b2s hK; obtain ⟨v5, h5, e5, hK⟩ := hK
  obtain ⟨o5, e5⟩ := cV_some e5
  refine mm_callV C (pc := 5) (d1 := 1) (As := [.int a1]) (st := []) (vk := (some (.int v5))) ((S_X9_isSign (by omega)) e5) tT_X9_isSign o5 (Or.inr ⟨_, rfl, rfl⟩) wd_1310 wd_1311 wd_1312 (by omega) (by decide) rfl (by simp [mm_crf, mm_cti, mm_ctl]) rfl dX7_takeSign_5 ?_
  show V _ _ (.int v5 :: _) _
  refine mm_if_ne C (pc := 8) (tgt := 17) dX7_takeSign_8 (by decide) (fun hc => ?_) (fun hc => ?_)
  · replace hK := mm_in hc hK
    refine mm_aload_n C (pc := 17) 0 dX7_takeSign_17 rfl ?_
    replace hK := mm_bd hK; obtain ⟨v18, e18, hK⟩ := hK
    refine mm_getr C (pc := 18) (k := 0) inGX7 rfl (by decide) wd_351 dX7_takeSign_18 e18 ?_
    replace hK := mm_bd hK; obtain ⟨h21, e21, hK⟩ := hK
    obtain ⟨o21, e21⟩ := cV_some e21
    refine mm_callV C (pc := 21) (d1 := 5) (As := []) (st := []) (vk := none) ((S_X9_advance (by omega)) e21) tT_X9_advance o21 (Or.inr ⟨_, rfl, rfl⟩) wd_1289 wd_1185 wd_1186 (by omega) (by decide) rfl (by simp [mm_crf, mm_cti, mm_ctl]) rfl dX7_takeSign_21 ?_
    show V _ _ [] _
    refine mm_iconst C (pc := 24) (v := (1 : Int32)) dX7_takeSign_24 (by decide) ?_
    replace hK := rZ_some hK; obtain ⟨hv25, hK⟩ := hK
    cases hK
    exact mm_zret C (pc := 25) rfl (mm_nrZ hv25) dX7_takeSign_25 rfl rfl
  · replace hK := mm_ip hc hK
    refine mm_aload_n C (pc := 11) 0 dX7_takeSign_11 rfl ?_
    refine mm_iconst C (pc := 12) (v := (2 : Int32)) dX7_takeSign_12 (by decide) ?_
    replace hK := mm_b2s hK; obtain ⟨v13, h13, e13, hK⟩ := hK
    obtain ⟨o13, e13⟩ := cV_some e13
    refine mm_callV C (pc := 13) (d1 := 2) (As := [.int (2 : Int32)]) (st := []) (vk := (some (.int v13))) ((S_X7_refuse (by omega)) e13) tT_X7_refuse o13 (Or.inr ⟨_, rfl, rfl⟩) wd_1277 wd_1279 wd_19 (by omega) (by decide) rfl (by simp [mm_crf, mm_cti, mm_ctl]) rfl dX7_takeSign_13 ?_
    show V _ _ (.int v13 :: _) _
    replace hK := rZ_some hK; obtain ⟨hv16, hK⟩ := hK
    cases hK
    exact mm_zret C (pc := 16) rfl (mm_nrZ hv16) dX7_takeSign_16 rfl rfl
theorem wd_1309 : Cond.code yX7_takeSign cX7_takeSign 2 (some .boolean) ∈ lw_good := mm_wd 1309 (by decide +kernel) (by decide +kernel)
theorem tT_X7_takeSign : mm_T yX7_takeSign cX7_takeSign 2 (some .boolean) 1 := ⟨wd_1309, wd_148, by decide +kernel, by decide +kernel, by decide +kernel, by decide +kernel⟩
theorem wd_1306 : Cond.methodLink RX7 144 yX7_takeSign ∈ lw_good := mm_wd 1306 (by decide +kernel) (by decide +kernel)
theorem wd_1308 : Cond.instanceMethod yX7_takeSign ∈ lw_good := mm_wd 1308 (by decide +kernel) (by decide +kernel)
theorem wd_22 : Cond.selects RX7 yX7_takeSign yX7_takeSign ∈ lw_good := mm_wd 22 (by decide +kernel) (by decide +kernel)
def F_X7_endLine (a0 : Option Nat) (h : MH) : Option (Int32 × MH) := (gI h a0 7 10).bind fun v2 => (pI h a0 7 10 (v2 + (1 : Int32))).bind fun h7 => mm_b2 (cV h7 a0 7 (F_X7_takeSign a0 (59 : Int32) h7)) fun v13 h13 => rZ v13 h13
set_option maxRecDepth 20000 in
set_option maxHeartbeats 4000000 in
theorem S_X7_endLine {d : Nat} (hd : 7 ≤ d) {a0 : Option Nat} {h : MH} {r : Int32} {hz : MH} (hK : F_X7_endLine a0 h = some (r, hz)) : mm_M yX7_endLine cX7_endLine 1 (some .boolean) d [va_rf a0] h (.inr (some (.int r))) hz := by
  refine mm_ofV (by decide +kernel) (by simp [lg_sl, mm_crf, mm_cti, mm_ctl]) (fun V C => ?_)
  rw [show lv_args 0 [va_rf a0] = [(0, va_rf a0)] by simp [lv_args, mm_crf, mm_cti, mm_ctl]]
  unfold F_X7_endLine at hK
  refine mm_aload_n C (pc := 0) 0 dX7_endLine_0 rfl ?_
  refine mm_dup C (pc := 1) dX7_endLine_1 mm_crf ?_
  replace hK := mm_bd hK; obtain ⟨v2, e2, hK⟩ := hK
  refine mm_geti C (pc := 2) (k := 10) inGX7 rfl (by decide) wd_361 dX7_endLine_2 e2 ?_
  refine mm_iconst C (pc := 5) (v := (1 : Int32)) dX7_endLine_5 (by decide) ?_
  refine mm_iadd C (pc := 6) dX7_endLine_6 ?_
  replace hK := mm_bd hK; obtain ⟨h7, e7, hK⟩ := hK
  refine mm_puti C (pc := 7) (k := 10) false (fun z => by cases z) inGX7 tyX7 tyX7_ok nmX7 rfl (by decide) wd_361 rfl rfl dX7_endLine_7 e7 ?_
  refine mm_aload_n C (pc := 10) 0 dX7_endLine_10 rfl ?_
  refine mm_bipush C (pc := 11) (v := (59 : Int32)) dX7_endLine_11 (by decide) ?_
  replace hK := mm_b2s hK; obtain ⟨v13, h13, e13, hK⟩ := hK
  obtain ⟨o13, e13⟩ := cV_some e13
  refine mm_callV C (pc := 13) (d1 := 6) (As := [.int (59 : Int32)]) (st := []) (vk := (some (.int v13))) ((S_X7_takeSign (by omega)) e13) tT_X7_takeSign o13 (Or.inr ⟨_, rfl, rfl⟩) wd_1306 wd_1308 wd_22 (by omega) (by decide) rfl (by simp [mm_crf, mm_cti, mm_ctl]) rfl dX7_endLine_13 ?_
  show V _ _ (.int v13 :: _) _
  replace hK := rZ_some hK; obtain ⟨hv16, hK⟩ := hK
  cases hK
  exact mm_zret C (pc := 16) rfl (mm_nrZ hv16) dX7_endLine_16 rfl rfl
def F_X9_isEnd_12 (s0 : Int32) (h : MH) : Option (Int32 × MH) := rZ s0 h
set_option maxRecDepth 20000 in
set_option maxHeartbeats 4000000 in
theorem w_X9_isEnd_12 {d : Nat} {V : Nat → List (Nat × Value) → List Value → MH → Prop} {r : Int32} {hz : MH} (hd : 1 ≤ d) (C : mm_C d yX9_isEnd cX9_isEnd 1 (some .boolean) (.inr (some (.int r))) hz V) (s0 : Int32) (h : MH) (hK : F_X9_isEnd_12 s0 h = some (r, hz)) : V 12 [] [.int s0] h := by
  unfold F_X9_isEnd_12 at hK
  replace hK := rZ_some hK; obtain ⟨hv12, hK⟩ := hK
  cases hK
  exact mm_zret C (pc := 12) rfl (mm_nrZ hv12) dX9_isEnd_12 rfl rfl
def F_X9_isEnd (a0 : Option Nat) (h : MH) : Option (Int32 × MH) := (gI h a0 9 4).bind fun v1 => if v1 = 0 then (F_X9_isEnd_12 (1 : Int32) h) else (F_X9_isEnd_12 (0 : Int32) h)
set_option maxRecDepth 20000 in
set_option maxHeartbeats 4000000 in
theorem S_X9_isEnd {d : Nat} (hd : 1 ≤ d) {a0 : Option Nat} {h : MH} {r : Int32} {hz : MH} (hK : F_X9_isEnd a0 h = some (r, hz)) : mm_M yX9_isEnd cX9_isEnd 1 (some .boolean) d [va_rf a0] h (.inr (some (.int r))) hz := by
  refine mm_ofV (by decide +kernel) (by simp [lg_sl, mm_crf, mm_cti, mm_ctl]) (fun V C => ?_)
  rw [show lv_args 0 [va_rf a0] = [(0, va_rf a0)] by simp [lv_args, mm_crf, mm_cti, mm_ctl]]
  unfold F_X9_isEnd at hK
  refine mm_aload_n C (pc := 0) 0 dX9_isEnd_0 rfl ?_
  replace hK := mm_bd hK; obtain ⟨v1, e1, hK⟩ := hK
  refine mm_geti C (pc := 1) (k := 4) inGX9 rfl (by decide) wd_332 dX9_isEnd_1 e1 ?_
  refine mm_if_ne C (pc := 4) (tgt := 11) dX9_isEnd_4 (by decide) (fun hc => ?_) (fun hc => ?_)
  · replace hK := mm_in hc hK
    refine mm_iconst C (pc := 11) (v := (0 : Int32)) dX9_isEnd_11 (by decide) ?_
    refine mm_sub C [] rfl ?_
    exact w_X9_isEnd_12 hd C _ _ hK
  · replace hK := mm_ip hc hK
    refine mm_iconst C (pc := 7) (v := (1 : Int32)) dX9_isEnd_7 (by decide) ?_
    refine mm_goto C (pc := 8) (tgt := 12) dX9_isEnd_8 (by decide) ?_
    refine mm_sub C [] rfl ?_
    exact w_X9_isEnd_12 hd C _ _ hK
def F_X7_readCord_98 (l0 : Option Nat) (s0 : Int32) (s1 : Int32) (s2 : Option Nat) (h : MH) : Option (Int32 × MH) := (sI h s2 0 s1 s0).bind fun h98 => (gI h98 l0 7 7).bind fun v101 => (pI h98 l0 7 7 (v101 + (1 : Int32))).bind fun h106 => rZ (1 : Int32) h106
set_option maxRecDepth 20000 in
set_option maxHeartbeats 4000000 in
theorem w_X7_readCord_98 {d : Nat} {V : Nat → List (Nat × Value) → List Value → MH → Prop} {r : Int32} {hz : MH} (hd : 7 ≤ d) (C : mm_C d yX7_readCord cX7_readCord 4 (some .boolean) (.inr (some (.int r))) hz V) (l0 : Option Nat) (s0 : Int32) (s1 : Int32) (s2 : Option Nat) (h : MH) (hK : F_X7_readCord_98 l0 s0 s1 s2 h = some (r, hz)) : V 98 [(0, va_rf l0)] [.int s0, .int s1, va_rf s2] h := by
  unfold F_X7_readCord_98 at hK
  replace hK := mm_bd hK; obtain ⟨h98, e98, hK⟩ := hK
  refine mm_iast C (pc := 98) dX7_readCord_98 e98 ?_
  refine mm_aload_n C (pc := 99) 0 dX7_readCord_99 rfl ?_
  refine mm_dup C (pc := 100) dX7_readCord_100 mm_crf ?_
  replace hK := mm_bd hK; obtain ⟨v101, e101, hK⟩ := hK
  refine mm_geti C (pc := 101) (k := 7) inGX7 rfl (by decide) wd_358 dX7_readCord_101 e101 ?_
  refine mm_iconst C (pc := 104) (v := (1 : Int32)) dX7_readCord_104 (by decide) ?_
  refine mm_iadd C (pc := 105) dX7_readCord_105 ?_
  replace hK := mm_bd hK; obtain ⟨h106, e106, hK⟩ := hK
  refine mm_puti C (pc := 106) (k := 7) false (fun z => by cases z) inGX7 tyX7 tyX7_ok nmX7 rfl (by decide) wd_358 rfl rfl dX7_readCord_106 e106 ?_
  refine mm_iconst C (pc := 109) (v := (1 : Int32)) dX7_readCord_109 (by decide) ?_
  replace hK := rZ_some hK; obtain ⟨hv110, hK⟩ := hK
  cases hK
  exact mm_zret C (pc := 110) rfl (mm_nrZ hv110) dX7_readCord_110 rfl rfl
def F_X7_readCord_74 (l0 : Option Nat) (l1 : Int32) (h : MH) : Option (Int32 × MH) := (gR h l0 7 1).bind fun v75 => (gI h l0 7 7).bind fun v79 => if l1 = 0 then ((gI h l0 7 6).bind fun v88 => F_X7_readCord_98 l0 (((1 : Int32) <<< (v88 &&& 31)) - (1 : Int32)) v79 v75 h) else (F_X7_readCord_98 l0 l1 v79 v75 h)
set_option maxRecDepth 20000 in
set_option maxHeartbeats 4000000 in
theorem w_X7_readCord_74 {d : Nat} {V : Nat → List (Nat × Value) → List Value → MH → Prop} {r : Int32} {hz : MH} (hd : 7 ≤ d) (C : mm_C d yX7_readCord cX7_readCord 4 (some .boolean) (.inr (some (.int r))) hz V) (l0 : Option Nat) (l1 : Int32) (h : MH) (hK : F_X7_readCord_74 l0 l1 h = some (r, hz)) : V 74 [(0, va_rf l0), (1, .int l1)] [] h := by
  unfold F_X7_readCord_74 at hK
  refine mm_aload_n C (pc := 74) 0 dX7_readCord_74 rfl ?_
  replace hK := mm_bd hK; obtain ⟨v75, e75, hK⟩ := hK
  refine mm_getr C (pc := 75) (k := 1) inGX7 rfl (by decide) wd_352 dX7_readCord_75 e75 ?_
  refine mm_aload_n C (pc := 78) 0 dX7_readCord_78 rfl ?_
  replace hK := mm_bd hK; obtain ⟨v79, e79, hK⟩ := hK
  refine mm_geti C (pc := 79) (k := 7) inGX7 rfl (by decide) wd_358 dX7_readCord_79 e79 ?_
  refine mm_iload_n C (pc := 82) 1 dX7_readCord_82 rfl ?_
  refine mm_if_ne C (pc := 83) (tgt := 97) dX7_readCord_83 (by decide) (fun hc => ?_) (fun hc => ?_)
  · replace hK := mm_in hc hK
    refine mm_iload_n C (pc := 97) 1 dX7_readCord_97 rfl ?_
    refine mm_sub C [0] rfl ?_
    exact w_X7_readCord_98 hd C _ _ _ _ _ hK
  · replace hK := mm_ip hc hK
    refine mm_iconst C (pc := 86) (v := (1 : Int32)) dX7_readCord_86 (by decide) ?_
    refine mm_aload_n C (pc := 87) 0 dX7_readCord_87 rfl ?_
    replace hK := mm_bd hK; obtain ⟨v88, e88, hK⟩ := hK
    refine mm_geti C (pc := 88) (k := 6) inGX7 rfl (by decide) wd_357 dX7_readCord_88 e88 ?_
    refine mm_ishl C (pc := 91) dX7_readCord_91 ?_
    refine mm_iconst C (pc := 92) (v := (1 : Int32)) dX7_readCord_92 (by decide) ?_
    refine mm_isub C (pc := 93) dX7_readCord_93 ?_
    refine mm_goto C (pc := 94) (tgt := 98) dX7_readCord_94 (by decide) ?_
    refine mm_sub C [0] rfl ?_
    exact w_X7_readCord_98 hd C _ _ _ _ _ hK
def F_X7_readCord_25 : Nat → Option Nat → Int32 → Int32 → MH → Option (Int32 × MH)
  | 0 => fun _ _ _ _ => none
  | n + 1 => fun l0 l1 l2 h => if (900 : Int32) ≤ l2 then (F_X7_readCord_74 l0 l1 h) else ((gR h l0 7 0).bind fun v33 => mm_b2 (cV h v33 9 (F_X9_isNumber v33 h)) fun v36 h36 => if v36 = 0 then (F_X7_readCord_74 l0 l1 h36) else ((gI h36 l0 7 6).bind fun v45 => mm_b2 (cV h36 l0 7 (F_X7_takeNumber l0 (0 : Int32) (v45 - (1 : Int32)) ((-1) : Int32) h36)) fun v51 h51 => if v51 = ((-1) : Int32) then (rZ (0 : Int32) h51) else (F_X7_readCord_25 n l0 (l1 ||| ((1 : Int32) <<< (v51 &&& 31))) (l2 + (1 : Int32)) h51)))
set_option maxRecDepth 20000 in
set_option maxHeartbeats 4000000 in
theorem w_X7_readCord_25 {d : Nat} {V : Nat → List (Nat × Value) → List Value → MH → Prop} {r : Int32} {hz : MH} (hd : 7 ≤ d) (C : mm_C d yX7_readCord cX7_readCord 4 (some .boolean) (.inr (some (.int r))) hz V) : ∀ (n : Nat) (l0 : Option Nat) (l1 : Int32) (l2 : Int32) (h : MH), F_X7_readCord_25 n l0 l1 l2 h = some (r, hz) → V 25 [(0, va_rf l0), (1, .int l1), (2, .int l2)] [] h := by
  intro n
  induction n with
  | zero => intro l0 l1 l2 h hK; cases hK
  | succ n ih =>
    intro l0 l1 l2 h hK
    replace hK : (if (900 : Int32) ≤ l2 then (F_X7_readCord_74 l0 l1 h) else ((gR h l0 7 0).bind fun v33 => mm_b2 (cV h v33 9 (F_X9_isNumber v33 h)) fun v36 h36 => if v36 = 0 then (F_X7_readCord_74 l0 l1 h36) else ((gI h36 l0 7 6).bind fun v45 => mm_b2 (cV h36 l0 7 (F_X7_takeNumber l0 (0 : Int32) (v45 - (1 : Int32)) ((-1) : Int32) h36)) fun v51 h51 => if v51 = ((-1) : Int32) then (rZ (0 : Int32) h51) else (F_X7_readCord_25 n l0 (l1 ||| ((1 : Int32) <<< (v51 &&& 31))) (l2 + (1 : Int32)) h51)))) = some (r, hz) := hK
    refine mm_iload_n C (pc := 25) 2 dX7_readCord_25 rfl ?_
    refine mm_sipush C (pc := 26) (v := (900 : Int32)) dX7_readCord_26 (by decide) ?_
    refine mm_icmp_ge C (pc := 29) (tgt := 74) dX7_readCord_29 (by decide) (fun hc => ?_) (fun hc => ?_)
    · replace hK := mm_ip hc hK
      refine mm_sub C [0, 1] rfl ?_
      exact w_X7_readCord_74 hd C _ _ _ hK
    · replace hK := mm_in hc hK
      refine mm_aload_n C (pc := 32) 0 dX7_readCord_32 rfl ?_
      replace hK := mm_bd hK; obtain ⟨v33, e33, hK⟩ := hK
      refine mm_getr C (pc := 33) (k := 0) inGX7 rfl (by decide) wd_351 dX7_readCord_33 e33 ?_
      replace hK := mm_b2s hK; obtain ⟨v36, h36, e36, hK⟩ := hK
      obtain ⟨o36, e36⟩ := cV_some e36
      refine mm_callV C (pc := 36) (d1 := 1) (As := []) (st := []) (vk := (some (.int v36))) ((S_X9_isNumber (by omega)) e36) tT_X9_isNumber o36 (Or.inr ⟨_, rfl, rfl⟩) wd_1294 wd_1295 wd_1296 (by omega) (by decide) rfl (by simp [mm_crf, mm_cti, mm_ctl]) rfl dX7_readCord_36 ?_
      show V _ _ (.int v36 :: _) _
      refine mm_if_eq C (pc := 39) (tgt := 74) dX7_readCord_39 (by decide) (fun hc => ?_) (fun hc => ?_)
      · replace hK := mm_ip hc hK
        refine mm_sub C [0, 1] rfl ?_
        exact w_X7_readCord_74 hd C _ _ _ hK
      · replace hK := mm_in hc hK
        refine mm_aload_n C (pc := 42) 0 dX7_readCord_42 rfl ?_
        refine mm_iconst C (pc := 43) (v := (0 : Int32)) dX7_readCord_43 (by decide) ?_
        refine mm_aload_n C (pc := 44) 0 dX7_readCord_44 rfl ?_
        replace hK := mm_bd hK; obtain ⟨v45, e45, hK⟩ := hK
        refine mm_geti C (pc := 45) (k := 6) inGX7 rfl (by decide) wd_357 dX7_readCord_45 e45 ?_
        refine mm_iconst C (pc := 48) (v := (1 : Int32)) dX7_readCord_48 (by decide) ?_
        refine mm_isub C (pc := 49) dX7_readCord_49 ?_
        refine mm_iconst C (pc := 50) (v := ((-1) : Int32)) dX7_readCord_50 (by decide) ?_
        replace hK := mm_b2s hK; obtain ⟨v51, h51, e51, hK⟩ := hK
        obtain ⟨o51, e51⟩ := cV_some e51
        refine mm_callV C (pc := 51) (d1 := 6) (As := [.int (0 : Int32), .int (v45 - (1 : Int32)), .int ((-1) : Int32)]) (st := []) (vk := (some (.int v51))) ((S_X7_takeNumber (by omega)) e51) tT_X7_takeNumber o51 (Or.inr ⟨_, rfl, rfl⟩) wd_1290 wd_1292 wd_20 (by omega) (by decide) rfl (by simp [mm_crf, mm_cti, mm_ctl]) rfl dX7_readCord_51 ?_
        show V _ _ (.int v51 :: _) _
        refine mm_istore_n C (pc := 54) (i := 3) (lv' := [(3, .int v51), (0, va_rf l0), (1, .int l1), (2, .int l2)]) dX7_readCord_54 rfl (by decide) rfl ?_
        refine mm_iload_n C (pc := 55) 0 dX7_readCord_55 rfl ?_
        refine mm_iconst C (pc := 56) (v := ((-1) : Int32)) dX7_readCord_56 (by decide) ?_
        refine mm_icmp_ne C (pc := 57) (tgt := 62) dX7_readCord_57 (by decide) (fun hc => ?_) (fun hc => ?_)
        · replace hK := mm_in hc hK
          refine mm_iload_n C (pc := 62) 2 dX7_readCord_62 rfl ?_
          refine mm_iconst C (pc := 63) (v := (1 : Int32)) dX7_readCord_63 (by decide) ?_
          refine mm_iload_n C (pc := 64) 0 dX7_readCord_64 rfl ?_
          refine mm_ishl C (pc := 65) dX7_readCord_65 ?_
          refine mm_ior C (pc := 66) dX7_readCord_66 ?_
          refine mm_istore_n C (pc := 67) (i := 1) (lv' := [(1, .int (l1 ||| ((1 : Int32) <<< (v51 &&& 31)))), (3, .int v51), (0, va_rf l0), (2, .int l2)]) dX7_readCord_67 rfl (by decide) (by simp [mm_crf]) ?_
          refine mm_iinc C (pc := 68) (v := (l2 + (1 : Int32))) (lv' := [(2, .int (l2 + (1 : Int32))), (1, .int (l1 ||| ((1 : Int32) <<< (v51 &&& 31)))), (3, .int v51), (0, va_rf l0)]) 3 dX7_readCord_68 rfl rfl (by decide) rfl ?_
          refine mm_goto C (pc := 71) (tgt := 25) dX7_readCord_71 (by decide) ?_
          refine mm_sub C [3, 1, 0] rfl ?_
          exact ih _ _ _ _ hK
        · replace hK := mm_ip hc hK
          refine mm_iconst C (pc := 60) (v := (0 : Int32)) dX7_readCord_60 (by decide) ?_
          replace hK := rZ_some hK; obtain ⟨hv61, hK⟩ := hK
          cases hK
          exact mm_zret C (pc := 61) rfl (mm_nrZ hv61) dX7_readCord_61 rfl rfl
def F_X7_readCord (a0 : Option Nat) (h : MH) : Option (Int32 × MH) := (gI h a0 7 7).bind fun v1 => if v1 < (3 : Int32) then ((gR h a0 7 0).bind fun v15 => (cV h v15 9 (F_X9_advance v15 h)).bind fun h18 => F_X7_readCord_25 mm_N a0 (0 : Int32) (0 : Int32) h18) else (mm_b2 (cV h a0 7 (F_X7_refuse a0 (4 : Int32) h)) fun v10 h10 => rZ v10 h10)
set_option maxRecDepth 20000 in
set_option maxHeartbeats 4000000 in
theorem S_X7_readCord {d : Nat} (hd : 7 ≤ d) {a0 : Option Nat} {h : MH} {r : Int32} {hz : MH} (hK : F_X7_readCord a0 h = some (r, hz)) : mm_M yX7_readCord cX7_readCord 4 (some .boolean) d [va_rf a0] h (.inr (some (.int r))) hz := by
  refine mm_ofV (by decide +kernel) (by simp [lg_sl, mm_crf, mm_cti, mm_ctl]) (fun V C => ?_)
  rw [show lv_args 0 [va_rf a0] = [(0, va_rf a0)] by simp [lv_args, mm_crf, mm_cti, mm_ctl]]
  unfold F_X7_readCord at hK
  refine mm_aload_n C (pc := 0) 0 dX7_readCord_0 rfl ?_
  replace hK := mm_bd hK; obtain ⟨v1, e1, hK⟩ := hK
  refine mm_geti C (pc := 1) (k := 7) inGX7 rfl (by decide) wd_358 dX7_readCord_1 e1 ?_
  refine mm_iconst C (pc := 4) (v := (3 : Int32)) dX7_readCord_4 (by decide) ?_
  refine mm_icmp_lt C (pc := 5) (tgt := 14) dX7_readCord_5 (by decide) (fun hc => ?_) (fun hc => ?_)
  · replace hK := mm_ip hc hK
    refine mm_aload_n C (pc := 14) 0 dX7_readCord_14 rfl ?_
    replace hK := mm_bd hK; obtain ⟨v15, e15, hK⟩ := hK
    refine mm_getr C (pc := 15) (k := 0) inGX7 rfl (by decide) wd_351 dX7_readCord_15 e15 ?_
    replace hK := mm_bd hK; obtain ⟨h18, e18, hK⟩ := hK
    obtain ⟨o18, e18⟩ := cV_some e18
    refine mm_callV C (pc := 18) (d1 := 5) (As := []) (st := []) (vk := none) ((S_X9_advance (by omega)) e18) tT_X9_advance o18 (Or.inr ⟨_, rfl, rfl⟩) wd_1289 wd_1185 wd_1186 (by omega) (by decide) rfl (by simp [mm_crf, mm_cti, mm_ctl]) rfl dX7_readCord_18 ?_
    show V _ _ [] _
    refine mm_iconst C (pc := 21) (v := (0 : Int32)) dX7_readCord_21 (by decide) ?_
    refine mm_istore_n C (pc := 22) (i := 1) (lv' := [(1, .int (0 : Int32)), (0, va_rf a0)]) dX7_readCord_22 rfl (by decide) (by simp [mm_crf]) ?_
    refine mm_iconst C (pc := 23) (v := (0 : Int32)) dX7_readCord_23 (by decide) ?_
    refine mm_istore_n C (pc := 24) (i := 2) (lv' := [(2, .int (0 : Int32)), (1, .int (0 : Int32)), (0, va_rf a0)]) dX7_readCord_24 rfl (by decide) rfl ?_
    refine mm_sub C [2, 1, 0] rfl ?_
    exact w_X7_readCord_25 hd C _ _ _ _ _ hK
  · replace hK := mm_in hc hK
    refine mm_aload_n C (pc := 8) 0 dX7_readCord_8 rfl ?_
    refine mm_iconst C (pc := 9) (v := (4 : Int32)) dX7_readCord_9 (by decide) ?_
    replace hK := mm_b2s hK; obtain ⟨v10, h10, e10, hK⟩ := hK
    obtain ⟨o10, e10⟩ := cV_some e10
    refine mm_callV C (pc := 10) (d1 := 2) (As := [.int (4 : Int32)]) (st := []) (vk := (some (.int v10))) ((S_X7_refuse (by omega)) e10) tT_X7_refuse o10 (Or.inr ⟨_, rfl, rfl⟩) wd_1277 wd_1279 wd_19 (by omega) (by decide) rfl (by simp [mm_crf, mm_cti, mm_ctl]) rfl dX7_readCord_10 ?_
    show V _ _ (.int v10 :: _) _
    replace hK := rZ_some hK; obtain ⟨hv13, hK⟩ := hK
    cases hK
    exact mm_zret C (pc := 13) rfl (mm_nrZ hv13) dX7_readCord_13 rfl rfl
def F_X7_readCall_49 (h : MH) : Option (Int32 × MH) := rZ (0 : Int32) h
set_option maxRecDepth 20000 in
set_option maxHeartbeats 4000000 in
theorem w_X7_readCall_49 {d : Nat} {V : Nat → List (Nat × Value) → List Value → MH → Prop} {r : Int32} {hz : MH} (hd : 7 ≤ d) (C : mm_C d yX7_readCall cX7_readCall 6 (some .boolean) (.inr (some (.int r))) hz V) (h : MH) (hK : F_X7_readCall_49  h = some (r, hz)) : V 49 [] [] h := by
  unfold F_X7_readCall_49 at hK
  refine mm_iconst C (pc := 49) (v := (0 : Int32)) dX7_readCall_49 (by decide) ?_
  replace hK := rZ_some hK; obtain ⟨hv50, hK⟩ := hK
  cases hK
  exact mm_zret C (pc := 50) rfl (mm_nrZ hv50) dX7_readCall_50 rfl rfl
def F_X7_readCall_78 (h : MH) : Option (Int32 × MH) := rZ (0 : Int32) h
set_option maxRecDepth 20000 in
set_option maxHeartbeats 4000000 in
theorem w_X7_readCall_78 {d : Nat} {V : Nat → List (Nat × Value) → List Value → MH → Prop} {r : Int32} {hz : MH} (hd : 7 ≤ d) (C : mm_C d yX7_readCall cX7_readCall 6 (some .boolean) (.inr (some (.int r))) hz V) (h : MH) (hK : F_X7_readCall_78  h = some (r, hz)) : V 78 [] [] h := by
  unfold F_X7_readCall_78 at hK
  refine mm_iconst C (pc := 78) (v := (0 : Int32)) dX7_readCall_78 (by decide) ?_
  replace hK := rZ_some hK; obtain ⟨hv79, hK⟩ := hK
  cases hK
  exact mm_zret C (pc := 79) rfl (mm_nrZ hv79) dX7_readCall_79 rfl rfl
def F_X7_readCall_104 (h : MH) : Option (Int32 × MH) := rZ (0 : Int32) h
set_option maxRecDepth 20000 in
set_option maxHeartbeats 4000000 in
theorem w_X7_readCall_104 {d : Nat} {V : Nat → List (Nat × Value) → List Value → MH → Prop} {r : Int32} {hz : MH} (hd : 7 ≤ d) (C : mm_C d yX7_readCall cX7_readCall 6 (some .boolean) (.inr (some (.int r))) hz V) (h : MH) (hK : F_X7_readCall_104  h = some (r, hz)) : V 104 [] [] h := by
  unfold F_X7_readCall_104 at hK
  refine mm_iconst C (pc := 104) (v := (0 : Int32)) dX7_readCall_104 (by decide) ?_
  replace hK := rZ_some hK; obtain ⟨hv105, hK⟩ := hK
  cases hK
  exact mm_zret C (pc := 105) rfl (mm_nrZ hv105) dX7_readCall_105 rfl rfl
def F_X7_readCall (a0 : Option Nat) (h : MH) : Option (Int32 × MH) := (gI h a0 7 8).bind fun v1 => if v1 < (10 : Int32) then ((gR h a0 7 0).bind fun v16 => (cV h v16 9 (F_X9_advance v16 h)).bind fun h19 => (gI h19 a0 7 6).bind fun v25 => mm_b2 (cV h19 a0 7 (F_X7_takeNumber a0 (0 : Int32) (v25 - (1 : Int32)) ((-1) : Int32) h19)) fun v31 h31 => if v31 = ((-1) : Int32) then (F_X7_readCall_49 h31) else (mm_b2 (cV h31 a0 7 (F_X7_takeWord a0 (some 6 : Option Nat) h31)) fun v43 h43 => if v43 = 0 then (F_X7_readCall_49 h43) else ((gI h43 a0 7 6).bind fun v54 => mm_b2 (cV h43 a0 7 (F_X7_takeNumber a0 (0 : Int32) (v54 - (1 : Int32)) v31 h43)) fun v60 h60 => if v60 = ((-1) : Int32) then (F_X7_readCall_78 h60) else (mm_b2 (cV h60 a0 7 (F_X7_takeWord a0 (some 7 : Option Nat) h60)) fun v72 h72 => if v72 = 0 then (F_X7_readCall_78 h72) else (mm_b2 (cV h72 a0 7 (F_X7_takeNumber a0 (0 : Int32) (999 : Int32) ((-1) : Int32) h72)) fun v86 h86 => if v86 = ((-1) : Int32) then (F_X7_readCall_104 h86) else (mm_b2 (cV h86 a0 7 (F_X7_takeWord a0 (some 8 : Option Nat) h86)) fun v98 h98 => if v98 = 0 then (F_X7_readCall_104 h98) else (mm_b2 (cV h98 a0 7 (F_X7_takeNumber a0 (1 : Int32) (99 : Int32) ((-1) : Int32) h98)) fun v111 h111 => if v111 = ((-1) : Int32) then (rZ (0 : Int32) h111) else ((gI h111 a0 7 8).bind fun v125 => (gR h111 a0 7 2).bind fun v133 => (sI h111 v133 0 (v125 * (4 : Int32)) v31).bind fun h139 => (gR h139 a0 7 2).bind fun v141 => (sI h139 v141 0 ((v125 * (4 : Int32)) + (1 : Int32)) v60).bind fun h149 => (gR h149 a0 7 2).bind fun v151 => (sI h149 v151 0 ((v125 * (4 : Int32)) + (2 : Int32)) v86).bind fun h159 => (gR h159 a0 7 2).bind fun v161 => (sI h159 v161 0 ((v125 * (4 : Int32)) + (3 : Int32)) v111).bind fun h170 => (gI h170 a0 7 8).bind fun v173 => (pI h170 a0 7 8 (v173 + (1 : Int32))).bind fun h178 => rZ (1 : Int32) h178)))))))) else (mm_b2 (cV h a0 7 (F_X7_refuse a0 (4 : Int32) h)) fun v11 h11 => rZ v11 h11)
set_option maxRecDepth 20000 in
set_option maxHeartbeats 4000000 in
theorem S_X7_readCall {d : Nat} (hd : 7 ≤ d) {a0 : Option Nat} {h : MH} {r : Int32} {hz : MH} (hK : F_X7_readCall a0 h = some (r, hz)) : mm_M yX7_readCall cX7_readCall 6 (some .boolean) d [va_rf a0] h (.inr (some (.int r))) hz := by
  refine mm_ofV (by decide +kernel) (by simp [lg_sl, mm_crf, mm_cti, mm_ctl]) (fun V C => ?_)
  rw [show lv_args 0 [va_rf a0] = [(0, va_rf a0)] by simp [lv_args, mm_crf, mm_cti, mm_ctl]]
  unfold F_X7_readCall at hK
  refine mm_aload_n C (pc := 0) 0 dX7_readCall_0 rfl ?_
  replace hK := mm_bd hK; obtain ⟨v1, e1, hK⟩ := hK
  refine mm_geti C (pc := 1) (k := 8) inGX7 rfl (by decide) wd_359 dX7_readCall_1 e1 ?_
  refine mm_bipush C (pc := 4) (v := (10 : Int32)) dX7_readCall_4 (by decide) ?_
  refine mm_icmp_lt C (pc := 6) (tgt := 15) dX7_readCall_6 (by decide) (fun hc => ?_) (fun hc => ?_)
  · replace hK := mm_ip hc hK
    refine mm_aload_n C (pc := 15) 0 dX7_readCall_15 rfl ?_
    replace hK := mm_bd hK; obtain ⟨v16, e16, hK⟩ := hK
    refine mm_getr C (pc := 16) (k := 0) inGX7 rfl (by decide) wd_351 dX7_readCall_16 e16 ?_
    replace hK := mm_bd hK; obtain ⟨h19, e19, hK⟩ := hK
    obtain ⟨o19, e19⟩ := cV_some e19
    refine mm_callV C (pc := 19) (d1 := 5) (As := []) (st := []) (vk := none) ((S_X9_advance (by omega)) e19) tT_X9_advance o19 (Or.inr ⟨_, rfl, rfl⟩) wd_1289 wd_1185 wd_1186 (by omega) (by decide) rfl (by simp [mm_crf, mm_cti, mm_ctl]) rfl dX7_readCall_19 ?_
    show V _ _ [] _
    refine mm_aload_n C (pc := 22) 0 dX7_readCall_22 rfl ?_
    refine mm_iconst C (pc := 23) (v := (0 : Int32)) dX7_readCall_23 (by decide) ?_
    refine mm_aload_n C (pc := 24) 0 dX7_readCall_24 rfl ?_
    replace hK := mm_bd hK; obtain ⟨v25, e25, hK⟩ := hK
    refine mm_geti C (pc := 25) (k := 6) inGX7 rfl (by decide) wd_357 dX7_readCall_25 e25 ?_
    refine mm_iconst C (pc := 28) (v := (1 : Int32)) dX7_readCall_28 (by decide) ?_
    refine mm_isub C (pc := 29) dX7_readCall_29 ?_
    refine mm_iconst C (pc := 30) (v := ((-1) : Int32)) dX7_readCall_30 (by decide) ?_
    replace hK := mm_b2s hK; obtain ⟨v31, h31, e31, hK⟩ := hK
    obtain ⟨o31, e31⟩ := cV_some e31
    refine mm_callV C (pc := 31) (d1 := 6) (As := [.int (0 : Int32), .int (v25 - (1 : Int32)), .int ((-1) : Int32)]) (st := []) (vk := (some (.int v31))) ((S_X7_takeNumber (by omega)) e31) tT_X7_takeNumber o31 (Or.inr ⟨_, rfl, rfl⟩) wd_1290 wd_1292 wd_20 (by omega) (by decide) rfl (by simp [mm_crf, mm_cti, mm_ctl]) rfl dX7_readCall_31 ?_
    show V _ _ (.int v31 :: _) _
    refine mm_istore_n C (pc := 34) (i := 1) (lv' := [(1, .int v31), (0, va_rf a0)]) dX7_readCall_34 rfl (by decide) (by simp [mm_crf]) ?_
    refine mm_iload_n C (pc := 35) 0 dX7_readCall_35 rfl ?_
    refine mm_iconst C (pc := 36) (v := ((-1) : Int32)) dX7_readCall_36 (by decide) ?_
    refine mm_icmp_eq C (pc := 37) (tgt := 49) dX7_readCall_37 (by decide) (fun hc => ?_) (fun hc => ?_)
    · replace hK := mm_ip hc hK
      refine mm_sub C [] rfl ?_
      exact w_X7_readCall_49 hd C _ hK
    · replace hK := mm_in hc hK
      refine mm_aload_n C (pc := 40) 1 dX7_readCall_40 rfl ?_
      refine mm_ldcS C (pc := 41) (i := 6) (by decide) (by rfl) dX7_readCall_41 ?_
      replace hK := mm_b2s hK; obtain ⟨v43, h43, e43, hK⟩ := hK
      obtain ⟨o43, e43⟩ := cV_some e43
      refine mm_callV C (pc := 43) (d1 := 6) (As := [va_rf (some 6 : Option Nat)]) (st := []) (vk := (some (.int v43))) ((S_X7_takeWord (by omega)) e43) tT_X7_takeWord o43 (Or.inr ⟨_, rfl, rfl⟩) wd_1248 wd_1250 wd_18 (by omega) (by decide) rfl (by simp [mm_crf, mm_cti, mm_ctl]) rfl dX7_readCall_43 ?_
      show V _ _ (.int v43 :: _) _
      refine mm_if_ne C (pc := 46) (tgt := 51) dX7_readCall_46 (by decide) (fun hc => ?_) (fun hc => ?_)
      · replace hK := mm_in hc hK
        refine mm_aload_n C (pc := 51) 1 dX7_readCall_51 rfl ?_
        refine mm_iconst C (pc := 52) (v := (0 : Int32)) dX7_readCall_52 (by decide) ?_
        refine mm_aload_n C (pc := 53) 1 dX7_readCall_53 rfl ?_
        replace hK := mm_bd hK; obtain ⟨v54, e54, hK⟩ := hK
        refine mm_geti C (pc := 54) (k := 6) inGX7 rfl (by decide) wd_357 dX7_readCall_54 e54 ?_
        refine mm_iconst C (pc := 57) (v := (1 : Int32)) dX7_readCall_57 (by decide) ?_
        refine mm_isub C (pc := 58) dX7_readCall_58 ?_
        refine mm_iload_n C (pc := 59) 0 dX7_readCall_59 rfl ?_
        replace hK := mm_b2s hK; obtain ⟨v60, h60, e60, hK⟩ := hK
        obtain ⟨o60, e60⟩ := cV_some e60
        refine mm_callV C (pc := 60) (d1 := 6) (As := [.int (0 : Int32), .int (v54 - (1 : Int32)), .int v31]) (st := []) (vk := (some (.int v60))) ((S_X7_takeNumber (by omega)) e60) tT_X7_takeNumber o60 (Or.inr ⟨_, rfl, rfl⟩) wd_1290 wd_1292 wd_20 (by omega) (by decide) rfl (by simp [mm_crf, mm_cti, mm_ctl]) rfl dX7_readCall_60 ?_
        show V _ _ (.int v60 :: _) _
        refine mm_istore_n C (pc := 63) (i := 2) (lv' := [(2, .int v60), (1, .int v31), (0, va_rf a0)]) dX7_readCall_63 rfl (by decide) rfl ?_
        refine mm_iload_n C (pc := 64) 0 dX7_readCall_64 rfl ?_
        refine mm_iconst C (pc := 65) (v := ((-1) : Int32)) dX7_readCall_65 (by decide) ?_
        refine mm_icmp_eq C (pc := 66) (tgt := 78) dX7_readCall_66 (by decide) (fun hc => ?_) (fun hc => ?_)
        · replace hK := mm_ip hc hK
          refine mm_sub C [] rfl ?_
          exact w_X7_readCall_78 hd C _ hK
        · replace hK := mm_in hc hK
          refine mm_aload_n C (pc := 69) 2 dX7_readCall_69 rfl ?_
          refine mm_ldcS C (pc := 70) (i := 7) (by decide) (by rfl) dX7_readCall_70 ?_
          replace hK := mm_b2s hK; obtain ⟨v72, h72, e72, hK⟩ := hK
          obtain ⟨o72, e72⟩ := cV_some e72
          refine mm_callV C (pc := 72) (d1 := 6) (As := [va_rf (some 7 : Option Nat)]) (st := []) (vk := (some (.int v72))) ((S_X7_takeWord (by omega)) e72) tT_X7_takeWord o72 (Or.inr ⟨_, rfl, rfl⟩) wd_1248 wd_1250 wd_18 (by omega) (by decide) rfl (by simp [mm_crf, mm_cti, mm_ctl]) rfl dX7_readCall_72 ?_
          show V _ _ (.int v72 :: _) _
          refine mm_if_ne C (pc := 75) (tgt := 80) dX7_readCall_75 (by decide) (fun hc => ?_) (fun hc => ?_)
          · replace hK := mm_in hc hK
            refine mm_aload_n C (pc := 80) 2 dX7_readCall_80 rfl ?_
            refine mm_iconst C (pc := 81) (v := (0 : Int32)) dX7_readCall_81 (by decide) ?_
            refine mm_sipush C (pc := 82) (v := (999 : Int32)) dX7_readCall_82 (by decide) ?_
            refine mm_iconst C (pc := 85) (v := ((-1) : Int32)) dX7_readCall_85 (by decide) ?_
            replace hK := mm_b2s hK; obtain ⟨v86, h86, e86, hK⟩ := hK
            obtain ⟨o86, e86⟩ := cV_some e86
            refine mm_callV C (pc := 86) (d1 := 6) (As := [.int (0 : Int32), .int (999 : Int32), .int ((-1) : Int32)]) (st := []) (vk := (some (.int v86))) ((S_X7_takeNumber (by omega)) e86) tT_X7_takeNumber o86 (Or.inr ⟨_, rfl, rfl⟩) wd_1290 wd_1292 wd_20 (by omega) (by decide) rfl (by simp [mm_crf, mm_cti, mm_ctl]) rfl dX7_readCall_86 ?_
            show V _ _ (.int v86 :: _) _
            refine mm_istore_n C (pc := 89) (i := 3) (lv' := [(3, .int v86), (2, .int v60), (1, .int v31), (0, va_rf a0)]) dX7_readCall_89 rfl (by decide) rfl ?_
            refine mm_iload_n C (pc := 90) 0 dX7_readCall_90 rfl ?_
            refine mm_iconst C (pc := 91) (v := ((-1) : Int32)) dX7_readCall_91 (by decide) ?_
            refine mm_icmp_eq C (pc := 92) (tgt := 104) dX7_readCall_92 (by decide) (fun hc => ?_) (fun hc => ?_)
            · replace hK := mm_ip hc hK
              refine mm_sub C [] rfl ?_
              exact w_X7_readCall_104 hd C _ hK
            · replace hK := mm_in hc hK
              refine mm_aload_n C (pc := 95) 3 dX7_readCall_95 rfl ?_
              refine mm_ldcS C (pc := 96) (i := 8) (by decide) (by rfl) dX7_readCall_96 ?_
              replace hK := mm_b2s hK; obtain ⟨v98, h98, e98, hK⟩ := hK
              obtain ⟨o98, e98⟩ := cV_some e98
              refine mm_callV C (pc := 98) (d1 := 6) (As := [va_rf (some 8 : Option Nat)]) (st := []) (vk := (some (.int v98))) ((S_X7_takeWord (by omega)) e98) tT_X7_takeWord o98 (Or.inr ⟨_, rfl, rfl⟩) wd_1248 wd_1250 wd_18 (by omega) (by decide) rfl (by simp [mm_crf, mm_cti, mm_ctl]) rfl dX7_readCall_98 ?_
              show V _ _ (.int v98 :: _) _
              refine mm_if_ne C (pc := 101) (tgt := 106) dX7_readCall_101 (by decide) (fun hc => ?_) (fun hc => ?_)
              · replace hK := mm_in hc hK
                refine mm_aload_n C (pc := 106) 3 dX7_readCall_106 rfl ?_
                refine mm_iconst C (pc := 107) (v := (1 : Int32)) dX7_readCall_107 (by decide) ?_
                refine mm_bipush C (pc := 108) (v := (99 : Int32)) dX7_readCall_108 (by decide) ?_
                refine mm_iconst C (pc := 110) (v := ((-1) : Int32)) dX7_readCall_110 (by decide) ?_
                replace hK := mm_b2s hK; obtain ⟨v111, h111, e111, hK⟩ := hK
                obtain ⟨o111, e111⟩ := cV_some e111
                refine mm_callV C (pc := 111) (d1 := 6) (As := [.int (1 : Int32), .int (99 : Int32), .int ((-1) : Int32)]) (st := []) (vk := (some (.int v111))) ((S_X7_takeNumber (by omega)) e111) tT_X7_takeNumber o111 (Or.inr ⟨_, rfl, rfl⟩) wd_1290 wd_1292 wd_20 (by omega) (by decide) rfl (by simp [mm_crf, mm_cti, mm_ctl]) rfl dX7_readCall_111 ?_
                show V _ _ (.int v111 :: _) _
                refine mm_istore C (pc := 114) (i := 4) (lv' := [(4, .int v111), (3, .int v86), (2, .int v60), (1, .int v31), (0, va_rf a0)]) dX7_readCall_114 (by decide) rfl ?_
                refine mm_iload C (pc := 116) 0 dX7_readCall_116 rfl ?_
                refine mm_iconst C (pc := 118) (v := ((-1) : Int32)) dX7_readCall_118 (by decide) ?_
                refine mm_icmp_ne C (pc := 119) (tgt := 124) dX7_readCall_119 (by decide) (fun hc => ?_) (fun hc => ?_)
                · replace hK := mm_in hc hK
                  refine mm_aload_n C (pc := 124) 4 dX7_readCall_124 rfl ?_
                  replace hK := mm_bd hK; obtain ⟨v125, e125, hK⟩ := hK
                  refine mm_geti C (pc := 125) (k := 8) inGX7 rfl (by decide) wd_359 dX7_readCall_125 e125 ?_
                  refine mm_iconst C (pc := 128) (v := (4 : Int32)) dX7_readCall_128 (by decide) ?_
                  refine mm_imul C (pc := 129) dX7_readCall_129 ?_
                  refine mm_istore C (pc := 130) (i := 5) (lv' := [(5, .int (v125 * (4 : Int32))), (4, .int v111), (3, .int v86), (2, .int v60), (1, .int v31), (0, va_rf a0)]) dX7_readCall_130 (by decide) rfl ?_
                  refine mm_aload_n C (pc := 132) 5 dX7_readCall_132 rfl ?_
                  replace hK := mm_bd hK; obtain ⟨v133, e133, hK⟩ := hK
                  refine mm_getr C (pc := 133) (k := 2) inGX7 rfl (by decide) wd_353 dX7_readCall_133 e133 ?_
                  refine mm_iload C (pc := 136) 0 dX7_readCall_136 rfl ?_
                  refine mm_iload_n C (pc := 138) 4 dX7_readCall_138 rfl ?_
                  replace hK := mm_bd hK; obtain ⟨h139, e139, hK⟩ := hK
                  refine mm_iast C (pc := 139) dX7_readCall_139 e139 ?_
                  refine mm_aload_n C (pc := 140) 5 dX7_readCall_140 rfl ?_
                  replace hK := mm_bd hK; obtain ⟨v141, e141, hK⟩ := hK
                  refine mm_getr C (pc := 141) (k := 2) inGX7 rfl (by decide) wd_353 dX7_readCall_141 e141 ?_
                  refine mm_iload C (pc := 144) 0 dX7_readCall_144 rfl ?_
                  refine mm_iconst C (pc := 146) (v := (1 : Int32)) dX7_readCall_146 (by decide) ?_
                  refine mm_iadd C (pc := 147) dX7_readCall_147 ?_
                  refine mm_iload_n C (pc := 148) 3 dX7_readCall_148 rfl ?_
                  replace hK := mm_bd hK; obtain ⟨h149, e149, hK⟩ := hK
                  refine mm_iast C (pc := 149) dX7_readCall_149 e149 ?_
                  refine mm_aload_n C (pc := 150) 5 dX7_readCall_150 rfl ?_
                  replace hK := mm_bd hK; obtain ⟨v151, e151, hK⟩ := hK
                  refine mm_getr C (pc := 151) (k := 2) inGX7 rfl (by decide) wd_353 dX7_readCall_151 e151 ?_
                  refine mm_iload C (pc := 154) 0 dX7_readCall_154 rfl ?_
                  refine mm_iconst C (pc := 156) (v := (2 : Int32)) dX7_readCall_156 (by decide) ?_
                  refine mm_iadd C (pc := 157) dX7_readCall_157 ?_
                  refine mm_iload_n C (pc := 158) 2 dX7_readCall_158 rfl ?_
                  replace hK := mm_bd hK; obtain ⟨h159, e159, hK⟩ := hK
                  refine mm_iast C (pc := 159) dX7_readCall_159 e159 ?_
                  refine mm_aload_n C (pc := 160) 5 dX7_readCall_160 rfl ?_
                  replace hK := mm_bd hK; obtain ⟨v161, e161, hK⟩ := hK
                  refine mm_getr C (pc := 161) (k := 2) inGX7 rfl (by decide) wd_353 dX7_readCall_161 e161 ?_
                  refine mm_iload C (pc := 164) 0 dX7_readCall_164 rfl ?_
                  refine mm_iconst C (pc := 166) (v := (3 : Int32)) dX7_readCall_166 (by decide) ?_
                  refine mm_iadd C (pc := 167) dX7_readCall_167 ?_
                  refine mm_iload C (pc := 168) 1 dX7_readCall_168 rfl ?_
                  replace hK := mm_bd hK; obtain ⟨h170, e170, hK⟩ := hK
                  refine mm_iast C (pc := 170) dX7_readCall_170 e170 ?_
                  refine mm_aload_n C (pc := 171) 5 dX7_readCall_171 rfl ?_
                  refine mm_dup C (pc := 172) dX7_readCall_172 mm_crf ?_
                  replace hK := mm_bd hK; obtain ⟨v173, e173, hK⟩ := hK
                  refine mm_geti C (pc := 173) (k := 8) inGX7 rfl (by decide) wd_359 dX7_readCall_173 e173 ?_
                  refine mm_iconst C (pc := 176) (v := (1 : Int32)) dX7_readCall_176 (by decide) ?_
                  refine mm_iadd C (pc := 177) dX7_readCall_177 ?_
                  replace hK := mm_bd hK; obtain ⟨h178, e178, hK⟩ := hK
                  refine mm_puti C (pc := 178) (k := 8) false (fun z => by cases z) inGX7 tyX7 tyX7_ok nmX7 rfl (by decide) wd_359 rfl rfl dX7_readCall_178 e178 ?_
                  refine mm_iconst C (pc := 181) (v := (1 : Int32)) dX7_readCall_181 (by decide) ?_
                  replace hK := rZ_some hK; obtain ⟨hv182, hK⟩ := hK
                  cases hK
                  exact mm_zret C (pc := 182) rfl (mm_nrZ hv182) dX7_readCall_182 rfl rfl
                · replace hK := mm_ip hc hK
                  refine mm_iconst C (pc := 122) (v := (0 : Int32)) dX7_readCall_122 (by decide) ?_
                  replace hK := rZ_some hK; obtain ⟨hv123, hK⟩ := hK
                  cases hK
                  exact mm_zret C (pc := 123) rfl (mm_nrZ hv123) dX7_readCall_123 rfl rfl
              · replace hK := mm_ip hc hK
                refine mm_sub C [] rfl ?_
                exact w_X7_readCall_104 hd C _ hK
          · replace hK := mm_ip hc hK
            refine mm_sub C [] rfl ?_
            exact w_X7_readCall_78 hd C _ hK
      · replace hK := mm_ip hc hK
        refine mm_sub C [] rfl ?_
        exact w_X7_readCall_49 hd C _ hK
  · replace hK := mm_in hc hK
    refine mm_aload_n C (pc := 9) 0 dX7_readCall_9 rfl ?_
    refine mm_iconst C (pc := 10) (v := (4 : Int32)) dX7_readCall_10 (by decide) ?_
    replace hK := mm_b2s hK; obtain ⟨v11, h11, e11, hK⟩ := hK
    obtain ⟨o11, e11⟩ := cV_some e11
    refine mm_callV C (pc := 11) (d1 := 2) (As := [.int (4 : Int32)]) (st := []) (vk := (some (.int v11))) ((S_X7_refuse (by omega)) e11) tT_X7_refuse o11 (Or.inr ⟨_, rfl, rfl⟩) wd_1277 wd_1279 wd_19 (by omega) (by decide) rfl (by simp [mm_crf, mm_cti, mm_ctl]) rfl dX7_readCall_11 ?_
    show V _ _ (.int v11 :: _) _
    replace hK := rZ_some hK; obtain ⟨hv14, hK⟩ := hK
    cases hK
    exact mm_zret C (pc := 14) rfl (mm_nrZ hv14) dX7_readCall_14 rfl rfl
def F_X7_goDeeper (a0 : Option Nat) (a1 : Int32) (h : MH) : Option (Int32 × MH) := if a1 < (6 : Int32) then ((gR h a0 7 0).bind fun v13 => (cV h v13 9 (F_X9_advance v13 h)).bind fun h16 => rZ (1 : Int32) h16) else (mm_b2 (cV h a0 7 (F_X7_refuse a0 (4 : Int32) h)) fun v8 h8 => rZ v8 h8)
set_option maxRecDepth 20000 in
set_option maxHeartbeats 4000000 in
theorem S_X7_goDeeper {d : Nat} (hd : 6 ≤ d) {a0 : Option Nat} {a1 : Int32} {h : MH} {r : Int32} {hz : MH} (hK : F_X7_goDeeper a0 a1 h = some (r, hz)) : mm_M yX7_goDeeper cX7_goDeeper 2 (some .boolean) d [va_rf a0, .int a1] h (.inr (some (.int r))) hz := by
  refine mm_ofV (by decide +kernel) (by simp [lg_sl, mm_crf, mm_cti, mm_ctl]) (fun V C => ?_)
  rw [show lv_args 0 [va_rf a0, .int a1] = [(0, va_rf a0), (1, .int a1)] by simp [lv_args, mm_crf, mm_cti, mm_ctl]]
  unfold F_X7_goDeeper at hK
  refine mm_iload_n C (pc := 0) 1 dX7_goDeeper_0 rfl ?_
  refine mm_bipush C (pc := 1) (v := (6 : Int32)) dX7_goDeeper_1 (by decide) ?_
  refine mm_icmp_lt C (pc := 3) (tgt := 12) dX7_goDeeper_3 (by decide) (fun hc => ?_) (fun hc => ?_)
  · replace hK := mm_ip hc hK
    refine mm_aload_n C (pc := 12) 0 dX7_goDeeper_12 rfl ?_
    replace hK := mm_bd hK; obtain ⟨v13, e13, hK⟩ := hK
    refine mm_getr C (pc := 13) (k := 0) inGX7 rfl (by decide) wd_351 dX7_goDeeper_13 e13 ?_
    replace hK := mm_bd hK; obtain ⟨h16, e16, hK⟩ := hK
    obtain ⟨o16, e16⟩ := cV_some e16
    refine mm_callV C (pc := 16) (d1 := 5) (As := []) (st := []) (vk := none) ((S_X9_advance (by omega)) e16) tT_X9_advance o16 (Or.inr ⟨_, rfl, rfl⟩) wd_1289 wd_1185 wd_1186 (by omega) (by decide) rfl (by simp [mm_crf, mm_cti, mm_ctl]) rfl dX7_goDeeper_16 ?_
    show V _ _ [] _
    refine mm_iconst C (pc := 19) (v := (1 : Int32)) dX7_goDeeper_19 (by decide) ?_
    replace hK := rZ_some hK; obtain ⟨hv20, hK⟩ := hK
    cases hK
    exact mm_zret C (pc := 20) rfl (mm_nrZ hv20) dX7_goDeeper_20 rfl rfl
  · replace hK := mm_in hc hK
    refine mm_aload_n C (pc := 6) 0 dX7_goDeeper_6 rfl ?_
    refine mm_iconst C (pc := 7) (v := (4 : Int32)) dX7_goDeeper_7 (by decide) ?_
    replace hK := mm_b2s hK; obtain ⟨v8, h8, e8, hK⟩ := hK
    obtain ⟨o8, e8⟩ := cV_some e8
    refine mm_callV C (pc := 8) (d1 := 2) (As := [.int (4 : Int32)]) (st := []) (vk := (some (.int v8))) ((S_X7_refuse (by omega)) e8) tT_X7_refuse o8 (Or.inr ⟨_, rfl, rfl⟩) wd_1277 wd_1279 wd_19 (by omega) (by decide) rfl (by simp [mm_crf, mm_cti, mm_ctl]) rfl dX7_goDeeper_8 ?_
    show V _ _ (.int v8 :: _) _
    replace hK := rZ_some hK; obtain ⟨hv11, hK⟩ := hK
    cases hK
    exact mm_zret C (pc := 11) rfl (mm_nrZ hv11) dX7_goDeeper_11 rfl rfl
def F_X7_emit_30 (h : MH) : Option MH := some h
set_option maxRecDepth 20000 in
set_option maxHeartbeats 4000000 in
theorem w_X7_emit_30 {d : Nat} {V : Nat → List (Nat × Value) → List Value → MH → Prop} {hz : MH} (hd : 1 ≤ d) (C : mm_C d yX7_emit cX7_emit 2 none (.inr none) hz V) (h : MH) (hK : F_X7_emit_30  h = some hz) : V 30 [] [] h := by
  unfold F_X7_emit_30 at hK
  cases hK
  exact mm_vret C (pc := 30) rfl dX7_emit_30 rfl rfl
def F_X7_emit (a0 : Option Nat) (a1 : Int32) (h : MH) : Option MH := (gI h a0 7 11).bind fun v1 => if (900 : Int32) ≤ v1 then (F_X7_emit_30 h) else ((gR h a0 7 3).bind fun v11 => (gI h a0 7 11).bind fun v15 => (sI h v11 0 v15 a1).bind fun h19 => (gI h19 a0 7 11).bind fun v22 => (pI h19 a0 7 11 (v22 + (1 : Int32))).bind fun h27 => F_X7_emit_30 h27)
set_option maxRecDepth 20000 in
set_option maxHeartbeats 4000000 in
theorem S_X7_emit {d : Nat} (hd : 1 ≤ d) {a0 : Option Nat} {a1 : Int32} {h : MH} {hz : MH} (hK : F_X7_emit a0 a1 h = some hz) : mm_M yX7_emit cX7_emit 2 none d [va_rf a0, .int a1] h (.inr none) hz := by
  refine mm_ofV (by decide +kernel) (by simp [lg_sl, mm_crf, mm_cti, mm_ctl]) (fun V C => ?_)
  rw [show lv_args 0 [va_rf a0, .int a1] = [(0, va_rf a0), (1, .int a1)] by simp [lv_args, mm_crf, mm_cti, mm_ctl]]
  unfold F_X7_emit at hK
  refine mm_aload_n C (pc := 0) 0 dX7_emit_0 rfl ?_
  replace hK := mm_bd hK; obtain ⟨v1, e1, hK⟩ := hK
  refine mm_geti C (pc := 1) (k := 11) inGX7 rfl (by decide) wd_362 dX7_emit_1 e1 ?_
  refine mm_sipush C (pc := 4) (v := (900 : Int32)) dX7_emit_4 (by decide) ?_
  refine mm_icmp_ge C (pc := 7) (tgt := 30) dX7_emit_7 (by decide) (fun hc => ?_) (fun hc => ?_)
  · replace hK := mm_ip hc hK
    refine mm_sub C [] rfl ?_
    exact w_X7_emit_30 hd C _ hK
  · replace hK := mm_in hc hK
    refine mm_aload_n C (pc := 10) 0 dX7_emit_10 rfl ?_
    replace hK := mm_bd hK; obtain ⟨v11, e11, hK⟩ := hK
    refine mm_getr C (pc := 11) (k := 3) inGX7 rfl (by decide) wd_354 dX7_emit_11 e11 ?_
    refine mm_aload_n C (pc := 14) 0 dX7_emit_14 rfl ?_
    replace hK := mm_bd hK; obtain ⟨v15, e15, hK⟩ := hK
    refine mm_geti C (pc := 15) (k := 11) inGX7 rfl (by decide) wd_362 dX7_emit_15 e15 ?_
    refine mm_iload_n C (pc := 18) 1 dX7_emit_18 rfl ?_
    replace hK := mm_bd hK; obtain ⟨h19, e19, hK⟩ := hK
    refine mm_iast C (pc := 19) dX7_emit_19 e19 ?_
    refine mm_aload_n C (pc := 20) 0 dX7_emit_20 rfl ?_
    refine mm_dup C (pc := 21) dX7_emit_21 mm_crf ?_
    replace hK := mm_bd hK; obtain ⟨v22, e22, hK⟩ := hK
    refine mm_geti C (pc := 22) (k := 11) inGX7 rfl (by decide) wd_362 dX7_emit_22 e22 ?_
    refine mm_iconst C (pc := 25) (v := (1 : Int32)) dX7_emit_25 (by decide) ?_
    refine mm_iadd C (pc := 26) dX7_emit_26 ?_
    replace hK := mm_bd hK; obtain ⟨h27, e27, hK⟩ := hK
    refine mm_puti C (pc := 27) (k := 11) false (fun z => by cases z) inGX7 tyX7 tyX7_ok nmX7 rfl (by decide) wd_362 rfl rfl dX7_emit_27 e27 ?_
    refine mm_sub C [] rfl ?_
    exact w_X7_emit_30 hd C _ hK
def F_X7_variableOfLikes_31 (s0 : Int32) (h : MH) : Option (Int32 × MH) := some (s0, h)
set_option maxRecDepth 20000 in
set_option maxHeartbeats 4000000 in
theorem w_X7_variableOfLikes_31 {d : Nat} {V : Nat → List (Nat × Value) → List Value → MH → Prop} {r : Int32} {hz : MH} (hd : 6 ≤ d) (C : mm_C d yX7_variableOfLikes cX7_variableOfLikes 1 (some .int) (.inr (some (.int r))) hz V) (s0 : Int32) (h : MH) (hK : F_X7_variableOfLikes_31 s0 h = some (r, hz)) : V 31 [] [.int s0] h := by
  unfold F_X7_variableOfLikes_31 at hK
  cases hK
  exact mm_iret C (pc := 31) rfl dX7_variableOfLikes_31 rfl rfl
def F_X7_variableOfLikes (a0 : Option Nat) (h : MH) : Option (Int32 × MH) := (gR h a0 7 0).bind fun v1 => mm_b2 (cV h v1 9 (F_X9_isWord v1 (some 11 : Option Nat) h)) fun v6 h6 => if v6 = 0 then ((gR h6 a0 7 0).bind fun v15 => mm_b2 (cV h6 v15 9 (F_X9_isWord v15 (some 12 : Option Nat) h6)) fun v20 h20 => if v20 = 0 then (F_X7_variableOfLikes_31 ((-1) : Int32) h20) else (F_X7_variableOfLikes_31 (1 : Int32) h20)) else (some ((0 : Int32), h6))
set_option maxRecDepth 20000 in
set_option maxHeartbeats 4000000 in
theorem S_X7_variableOfLikes {d : Nat} (hd : 6 ≤ d) {a0 : Option Nat} {h : MH} {r : Int32} {hz : MH} (hK : F_X7_variableOfLikes a0 h = some (r, hz)) : mm_M yX7_variableOfLikes cX7_variableOfLikes 1 (some .int) d [va_rf a0] h (.inr (some (.int r))) hz := by
  refine mm_ofV (by decide +kernel) (by simp [lg_sl, mm_crf, mm_cti, mm_ctl]) (fun V C => ?_)
  rw [show lv_args 0 [va_rf a0] = [(0, va_rf a0)] by simp [lv_args, mm_crf, mm_cti, mm_ctl]]
  unfold F_X7_variableOfLikes at hK
  refine mm_aload_n C (pc := 0) 0 dX7_variableOfLikes_0 rfl ?_
  replace hK := mm_bd hK; obtain ⟨v1, e1, hK⟩ := hK
  refine mm_getr C (pc := 1) (k := 0) inGX7 rfl (by decide) wd_351 dX7_variableOfLikes_1 e1 ?_
  refine mm_ldcS C (pc := 4) (i := 11) (by decide) (by rfl) dX7_variableOfLikes_4 ?_
  replace hK := mm_b2s hK; obtain ⟨v6, h6, e6, hK⟩ := hK
  obtain ⟨o6, e6⟩ := cV_some e6
  refine mm_callV C (pc := 6) (d1 := 5) (As := [va_rf (some 11 : Option Nat)]) (st := []) (vk := (some (.int v6))) ((S_X9_isWord (by omega)) e6) tT_X9_isWord o6 (Or.inr ⟨_, rfl, rfl⟩) wd_1252 wd_1253 wd_1254 (by omega) (by decide) rfl (by simp [mm_crf, mm_cti, mm_ctl]) rfl dX7_variableOfLikes_6 ?_
  show V _ _ (.int v6 :: _) _
  refine mm_if_eq C (pc := 9) (tgt := 14) dX7_variableOfLikes_9 (by decide) (fun hc => ?_) (fun hc => ?_)
  · replace hK := mm_ip hc hK
    refine mm_aload_n C (pc := 14) 0 dX7_variableOfLikes_14 rfl ?_
    replace hK := mm_bd hK; obtain ⟨v15, e15, hK⟩ := hK
    refine mm_getr C (pc := 15) (k := 0) inGX7 rfl (by decide) wd_351 dX7_variableOfLikes_15 e15 ?_
    refine mm_ldcS C (pc := 18) (i := 12) (by decide) (by rfl) dX7_variableOfLikes_18 ?_
    replace hK := mm_b2s hK; obtain ⟨v20, h20, e20, hK⟩ := hK
    obtain ⟨o20, e20⟩ := cV_some e20
    refine mm_callV C (pc := 20) (d1 := 5) (As := [va_rf (some 12 : Option Nat)]) (st := []) (vk := (some (.int v20))) ((S_X9_isWord (by omega)) e20) tT_X9_isWord o20 (Or.inr ⟨_, rfl, rfl⟩) wd_1252 wd_1253 wd_1254 (by omega) (by decide) rfl (by simp [mm_crf, mm_cti, mm_ctl]) rfl dX7_variableOfLikes_20 ?_
    show V _ _ (.int v20 :: _) _
    refine mm_if_eq C (pc := 23) (tgt := 30) dX7_variableOfLikes_23 (by decide) (fun hc => ?_) (fun hc => ?_)
    · replace hK := mm_ip hc hK
      refine mm_iconst C (pc := 30) (v := ((-1) : Int32)) dX7_variableOfLikes_30 (by decide) ?_
      refine mm_sub C [] rfl ?_
      exact w_X7_variableOfLikes_31 hd C _ _ hK
    · replace hK := mm_in hc hK
      refine mm_iconst C (pc := 26) (v := (1 : Int32)) dX7_variableOfLikes_26 (by decide) ?_
      refine mm_goto C (pc := 27) (tgt := 31) dX7_variableOfLikes_27 (by decide) ?_
      refine mm_sub C [] rfl ?_
      exact w_X7_variableOfLikes_31 hd C _ _ hK
  · replace hK := mm_in hc hK
    refine mm_iconst C (pc := 12) (v := (0 : Int32)) dX7_variableOfLikes_12 (by decide) ?_
    cases hK
    exact mm_iret C (pc := 13) rfl dX7_variableOfLikes_13 rfl rfl
def F_X7_variableOfCalls_103 (s0 : Int32) (h : MH) : Option (Int32 × MH) := some (s0, h)
set_option maxRecDepth 20000 in
set_option maxHeartbeats 4000000 in
theorem w_X7_variableOfCalls_103 {d : Nat} {V : Nat → List (Nat × Value) → List Value → MH → Prop} {r : Int32} {hz : MH} (hd : 6 ≤ d) (C : mm_C d yX7_variableOfCalls cX7_variableOfCalls 1 (some .int) (.inr (some (.int r))) hz V) (s0 : Int32) (h : MH) (hK : F_X7_variableOfCalls_103 s0 h = some (r, hz)) : V 103 [] [.int s0] h := by
  unfold F_X7_variableOfCalls_103 at hK
  cases hK
  exact mm_iret C (pc := 103) rfl dX7_variableOfCalls_103 rfl rfl
def F_X7_variableOfCalls_102 (h : MH) : Option (Int32 × MH) := F_X7_variableOfCalls_103 ((-1) : Int32) h
set_option maxRecDepth 20000 in
set_option maxHeartbeats 4000000 in
theorem w_X7_variableOfCalls_102 {d : Nat} {V : Nat → List (Nat × Value) → List Value → MH → Prop} {r : Int32} {hz : MH} (hd : 6 ≤ d) (C : mm_C d yX7_variableOfCalls cX7_variableOfCalls 1 (some .int) (.inr (some (.int r))) hz V) (h : MH) (hK : F_X7_variableOfCalls_102  h = some (r, hz)) : V 102 [] [] h := by
  unfold F_X7_variableOfCalls_102 at hK
  refine mm_iconst C (pc := 102) (v := ((-1) : Int32)) dX7_variableOfCalls_102 (by decide) ?_
  exact w_X7_variableOfCalls_103 hd C _ _ hK
def F_X7_variableOfCalls_78 (l0 : Option Nat) (h : MH) : Option (Int32 × MH) := (gI h l0 7 12).bind fun v79 => if v79 = (2 : Int32) then ((gR h l0 7 0).bind fun v87 => mm_b2 (cV h v87 9 (F_X9_isWord v87 (some 16 : Option Nat) h)) fun v92 h92 => if v92 = 0 then (F_X7_variableOfCalls_102 h92) else (F_X7_variableOfCalls_103 (5 : Int32) h92)) else (F_X7_variableOfCalls_102 h)
set_option maxRecDepth 20000 in
set_option maxHeartbeats 4000000 in
theorem w_X7_variableOfCalls_78 {d : Nat} {V : Nat → List (Nat × Value) → List Value → MH → Prop} {r : Int32} {hz : MH} (hd : 6 ≤ d) (C : mm_C d yX7_variableOfCalls cX7_variableOfCalls 1 (some .int) (.inr (some (.int r))) hz V) (l0 : Option Nat) (h : MH) (hK : F_X7_variableOfCalls_78 l0 h = some (r, hz)) : V 78 [(0, va_rf l0)] [] h := by
  unfold F_X7_variableOfCalls_78 at hK
  refine mm_aload_n C (pc := 78) 0 dX7_variableOfCalls_78 rfl ?_
  replace hK := mm_bd hK; obtain ⟨v79, e79, hK⟩ := hK
  refine mm_geti C (pc := 79) (k := 12) inGX7 rfl (by decide) wd_363 dX7_variableOfCalls_79 e79 ?_
  refine mm_iconst C (pc := 82) (v := (2 : Int32)) dX7_variableOfCalls_82 (by decide) ?_
  refine mm_icmp_ne C (pc := 83) (tgt := 102) dX7_variableOfCalls_83 (by decide) (fun hc => ?_) (fun hc => ?_)
  · replace hK := mm_in hc hK
    refine mm_sub C [] rfl ?_
    exact w_X7_variableOfCalls_102 hd C _ hK
  · replace hK := mm_ip hc hK
    refine mm_aload_n C (pc := 86) 0 dX7_variableOfCalls_86 rfl ?_
    replace hK := mm_bd hK; obtain ⟨v87, e87, hK⟩ := hK
    refine mm_getr C (pc := 87) (k := 0) inGX7 rfl (by decide) wd_351 dX7_variableOfCalls_87 e87 ?_
    refine mm_ldcS C (pc := 90) (i := 16) (by decide) (by rfl) dX7_variableOfCalls_90 ?_
    replace hK := mm_b2s hK; obtain ⟨v92, h92, e92, hK⟩ := hK
    obtain ⟨o92, e92⟩ := cV_some e92
    refine mm_callV C (pc := 92) (d1 := 5) (As := [va_rf (some 16 : Option Nat)]) (st := []) (vk := (some (.int v92))) ((S_X9_isWord (by omega)) e92) tT_X9_isWord o92 (Or.inr ⟨_, rfl, rfl⟩) wd_1252 wd_1253 wd_1254 (by omega) (by decide) rfl (by simp [mm_crf, mm_cti, mm_ctl]) rfl dX7_variableOfCalls_92 ?_
    show V _ _ (.int v92 :: _) _
    refine mm_if_eq C (pc := 95) (tgt := 102) dX7_variableOfCalls_95 (by decide) (fun hc => ?_) (fun hc => ?_)
    · replace hK := mm_ip hc hK
      refine mm_sub C [] rfl ?_
      exact w_X7_variableOfCalls_102 hd C _ hK
    · replace hK := mm_in hc hK
      refine mm_iconst C (pc := 98) (v := (5 : Int32)) dX7_variableOfCalls_98 (by decide) ?_
      refine mm_goto C (pc := 99) (tgt := 103) dX7_variableOfCalls_99 (by decide) ?_
      refine mm_sub C [] rfl ?_
      exact w_X7_variableOfCalls_103 hd C _ _ hK
def F_X7_variableOfCalls (a0 : Option Nat) (h : MH) : Option (Int32 × MH) := (gR h a0 7 0).bind fun v1 => mm_b2 (cV h v1 9 (F_X9_isWord v1 (some 13 : Option Nat) h)) fun v6 h6 => if v6 = 0 then ((gR h6 a0 7 0).bind fun v15 => mm_b2 (cV h6 v15 9 (F_X9_isWord v15 (some 6 : Option Nat) h6)) fun v20 h20 => if v20 = 0 then ((gR h20 a0 7 0).bind fun v29 => mm_b2 (cV h20 v29 9 (F_X9_isWord v29 (some 14 : Option Nat) h20)) fun v34 h34 => if v34 = 0 then ((gR h34 a0 7 0).bind fun v43 => mm_b2 (cV h34 v43 9 (F_X9_isWord v43 (some 5 : Option Nat) h34)) fun v48 h48 => if v48 = 0 then ((gI h48 a0 7 12).bind fun v57 => if v57 = (2 : Int32) then ((gR h48 a0 7 0).bind fun v65 => mm_b2 (cV h48 v65 9 (F_X9_isWord v65 (some 15 : Option Nat) h48)) fun v70 h70 => if v70 = 0 then (F_X7_variableOfCalls_78 a0 h70) else (some ((4 : Int32), h70))) else (F_X7_variableOfCalls_78 a0 h48)) else (some ((3 : Int32), h48))) else (some ((2 : Int32), h34))) else (some ((1 : Int32), h20))) else (some ((0 : Int32), h6))
set_option maxRecDepth 20000 in
set_option maxHeartbeats 4000000 in
theorem S_X7_variableOfCalls {d : Nat} (hd : 6 ≤ d) {a0 : Option Nat} {h : MH} {r : Int32} {hz : MH} (hK : F_X7_variableOfCalls a0 h = some (r, hz)) : mm_M yX7_variableOfCalls cX7_variableOfCalls 1 (some .int) d [va_rf a0] h (.inr (some (.int r))) hz := by
  refine mm_ofV (by decide +kernel) (by simp [lg_sl, mm_crf, mm_cti, mm_ctl]) (fun V C => ?_)
  rw [show lv_args 0 [va_rf a0] = [(0, va_rf a0)] by simp [lv_args, mm_crf, mm_cti, mm_ctl]]
  unfold F_X7_variableOfCalls at hK
  refine mm_aload_n C (pc := 0) 0 dX7_variableOfCalls_0 rfl ?_
  replace hK := mm_bd hK; obtain ⟨v1, e1, hK⟩ := hK
  refine mm_getr C (pc := 1) (k := 0) inGX7 rfl (by decide) wd_351 dX7_variableOfCalls_1 e1 ?_
  refine mm_ldcS C (pc := 4) (i := 13) (by decide) (by rfl) dX7_variableOfCalls_4 ?_
  replace hK := mm_b2s hK; obtain ⟨v6, h6, e6, hK⟩ := hK
  obtain ⟨o6, e6⟩ := cV_some e6
  refine mm_callV C (pc := 6) (d1 := 5) (As := [va_rf (some 13 : Option Nat)]) (st := []) (vk := (some (.int v6))) ((S_X9_isWord (by omega)) e6) tT_X9_isWord o6 (Or.inr ⟨_, rfl, rfl⟩) wd_1252 wd_1253 wd_1254 (by omega) (by decide) rfl (by simp [mm_crf, mm_cti, mm_ctl]) rfl dX7_variableOfCalls_6 ?_
  show V _ _ (.int v6 :: _) _
  refine mm_if_eq C (pc := 9) (tgt := 14) dX7_variableOfCalls_9 (by decide) (fun hc => ?_) (fun hc => ?_)
  · replace hK := mm_ip hc hK
    refine mm_aload_n C (pc := 14) 0 dX7_variableOfCalls_14 rfl ?_
    replace hK := mm_bd hK; obtain ⟨v15, e15, hK⟩ := hK
    refine mm_getr C (pc := 15) (k := 0) inGX7 rfl (by decide) wd_351 dX7_variableOfCalls_15 e15 ?_
    refine mm_ldcS C (pc := 18) (i := 6) (by decide) (by rfl) dX7_variableOfCalls_18 ?_
    replace hK := mm_b2s hK; obtain ⟨v20, h20, e20, hK⟩ := hK
    obtain ⟨o20, e20⟩ := cV_some e20
    refine mm_callV C (pc := 20) (d1 := 5) (As := [va_rf (some 6 : Option Nat)]) (st := []) (vk := (some (.int v20))) ((S_X9_isWord (by omega)) e20) tT_X9_isWord o20 (Or.inr ⟨_, rfl, rfl⟩) wd_1252 wd_1253 wd_1254 (by omega) (by decide) rfl (by simp [mm_crf, mm_cti, mm_ctl]) rfl dX7_variableOfCalls_20 ?_
    show V _ _ (.int v20 :: _) _
    refine mm_if_eq C (pc := 23) (tgt := 28) dX7_variableOfCalls_23 (by decide) (fun hc => ?_) (fun hc => ?_)
    · replace hK := mm_ip hc hK
      refine mm_aload_n C (pc := 28) 0 dX7_variableOfCalls_28 rfl ?_
      replace hK := mm_bd hK; obtain ⟨v29, e29, hK⟩ := hK
      refine mm_getr C (pc := 29) (k := 0) inGX7 rfl (by decide) wd_351 dX7_variableOfCalls_29 e29 ?_
      refine mm_ldcS C (pc := 32) (i := 14) (by decide) (by rfl) dX7_variableOfCalls_32 ?_
      replace hK := mm_b2s hK; obtain ⟨v34, h34, e34, hK⟩ := hK
      obtain ⟨o34, e34⟩ := cV_some e34
      refine mm_callV C (pc := 34) (d1 := 5) (As := [va_rf (some 14 : Option Nat)]) (st := []) (vk := (some (.int v34))) ((S_X9_isWord (by omega)) e34) tT_X9_isWord o34 (Or.inr ⟨_, rfl, rfl⟩) wd_1252 wd_1253 wd_1254 (by omega) (by decide) rfl (by simp [mm_crf, mm_cti, mm_ctl]) rfl dX7_variableOfCalls_34 ?_
      show V _ _ (.int v34 :: _) _
      refine mm_if_eq C (pc := 37) (tgt := 42) dX7_variableOfCalls_37 (by decide) (fun hc => ?_) (fun hc => ?_)
      · replace hK := mm_ip hc hK
        refine mm_aload_n C (pc := 42) 0 dX7_variableOfCalls_42 rfl ?_
        replace hK := mm_bd hK; obtain ⟨v43, e43, hK⟩ := hK
        refine mm_getr C (pc := 43) (k := 0) inGX7 rfl (by decide) wd_351 dX7_variableOfCalls_43 e43 ?_
        refine mm_ldcS C (pc := 46) (i := 5) (by decide) (by rfl) dX7_variableOfCalls_46 ?_
        replace hK := mm_b2s hK; obtain ⟨v48, h48, e48, hK⟩ := hK
        obtain ⟨o48, e48⟩ := cV_some e48
        refine mm_callV C (pc := 48) (d1 := 5) (As := [va_rf (some 5 : Option Nat)]) (st := []) (vk := (some (.int v48))) ((S_X9_isWord (by omega)) e48) tT_X9_isWord o48 (Or.inr ⟨_, rfl, rfl⟩) wd_1252 wd_1253 wd_1254 (by omega) (by decide) rfl (by simp [mm_crf, mm_cti, mm_ctl]) rfl dX7_variableOfCalls_48 ?_
        show V _ _ (.int v48 :: _) _
        refine mm_if_eq C (pc := 51) (tgt := 56) dX7_variableOfCalls_51 (by decide) (fun hc => ?_) (fun hc => ?_)
        · replace hK := mm_ip hc hK
          refine mm_aload_n C (pc := 56) 0 dX7_variableOfCalls_56 rfl ?_
          replace hK := mm_bd hK; obtain ⟨v57, e57, hK⟩ := hK
          refine mm_geti C (pc := 57) (k := 12) inGX7 rfl (by decide) wd_363 dX7_variableOfCalls_57 e57 ?_
          refine mm_iconst C (pc := 60) (v := (2 : Int32)) dX7_variableOfCalls_60 (by decide) ?_
          refine mm_icmp_ne C (pc := 61) (tgt := 78) dX7_variableOfCalls_61 (by decide) (fun hc => ?_) (fun hc => ?_)
          · replace hK := mm_in hc hK
            exact w_X7_variableOfCalls_78 hd C _ _ hK
          · replace hK := mm_ip hc hK
            refine mm_aload_n C (pc := 64) 0 dX7_variableOfCalls_64 rfl ?_
            replace hK := mm_bd hK; obtain ⟨v65, e65, hK⟩ := hK
            refine mm_getr C (pc := 65) (k := 0) inGX7 rfl (by decide) wd_351 dX7_variableOfCalls_65 e65 ?_
            refine mm_ldcS C (pc := 68) (i := 15) (by decide) (by rfl) dX7_variableOfCalls_68 ?_
            replace hK := mm_b2s hK; obtain ⟨v70, h70, e70, hK⟩ := hK
            obtain ⟨o70, e70⟩ := cV_some e70
            refine mm_callV C (pc := 70) (d1 := 5) (As := [va_rf (some 15 : Option Nat)]) (st := []) (vk := (some (.int v70))) ((S_X9_isWord (by omega)) e70) tT_X9_isWord o70 (Or.inr ⟨_, rfl, rfl⟩) wd_1252 wd_1253 wd_1254 (by omega) (by decide) rfl (by simp [mm_crf, mm_cti, mm_ctl]) rfl dX7_variableOfCalls_70 ?_
            show V _ _ (.int v70 :: _) _
            refine mm_if_eq C (pc := 73) (tgt := 78) dX7_variableOfCalls_73 (by decide) (fun hc => ?_) (fun hc => ?_)
            · replace hK := mm_ip hc hK
              exact w_X7_variableOfCalls_78 hd C _ _ hK
            · replace hK := mm_in hc hK
              refine mm_iconst C (pc := 76) (v := (4 : Int32)) dX7_variableOfCalls_76 (by decide) ?_
              cases hK
              exact mm_iret C (pc := 77) rfl dX7_variableOfCalls_77 rfl rfl
        · replace hK := mm_in hc hK
          refine mm_iconst C (pc := 54) (v := (3 : Int32)) dX7_variableOfCalls_54 (by decide) ?_
          cases hK
          exact mm_iret C (pc := 55) rfl dX7_variableOfCalls_55 rfl rfl
      · replace hK := mm_in hc hK
        refine mm_iconst C (pc := 40) (v := (2 : Int32)) dX7_variableOfCalls_40 (by decide) ?_
        cases hK
        exact mm_iret C (pc := 41) rfl dX7_variableOfCalls_41 rfl rfl
    · replace hK := mm_in hc hK
      refine mm_iconst C (pc := 26) (v := (1 : Int32)) dX7_variableOfCalls_26 (by decide) ?_
      cases hK
      exact mm_iret C (pc := 27) rfl dX7_variableOfCalls_27 rfl rfl
  · replace hK := mm_in hc hK
    refine mm_iconst C (pc := 12) (v := (0 : Int32)) dX7_variableOfCalls_12 (by decide) ?_
    cases hK
    exact mm_iret C (pc := 13) rfl dX7_variableOfCalls_13 rfl rfl
theorem wd_1378 : Cond.code yX7_variableOfCalls cX7_variableOfCalls 1 (some .int) ∈ lw_good := mm_wd 1378 (by decide +kernel) (by decide +kernel)
theorem tT_X7_variableOfCalls : mm_T yX7_variableOfCalls cX7_variableOfCalls 1 (some .int) 0 := ⟨wd_1378, wd_148, by decide +kernel, by decide +kernel, by decide +kernel, by decide +kernel⟩
theorem wd_1375 : Cond.methodLink RX7 197 yX7_variableOfCalls ∈ lw_good := mm_wd 1375 (by decide +kernel) (by decide +kernel)
theorem wd_1377 : Cond.instanceMethod yX7_variableOfCalls ∈ lw_good := mm_wd 1377 (by decide +kernel) (by decide +kernel)
theorem wd_35 : Cond.selects RX7 yX7_variableOfCalls yX7_variableOfCalls ∈ lw_good := mm_wd 35 (by decide +kernel) (by decide +kernel)
theorem wd_1356 : Cond.code yX7_emit cX7_emit 2 none ∈ lw_good := mm_wd 1356 (by decide +kernel) (by decide +kernel)
theorem tT_X7_emit : mm_T yX7_emit cX7_emit 2 none 1 := ⟨wd_1356, wd_148, by decide +kernel, by decide +kernel, by decide +kernel, by decide +kernel⟩
theorem wd_1353 : Cond.methodLink RX7 172 yX7_emit ∈ lw_good := mm_wd 1353 (by decide +kernel) (by decide +kernel)
theorem wd_1355 : Cond.instanceMethod yX7_emit ∈ lw_good := mm_wd 1355 (by decide +kernel) (by decide +kernel)
theorem wd_30 : Cond.selects RX7 yX7_emit yX7_emit ∈ lw_good := mm_wd 30 (by decide +kernel) (by decide +kernel)
theorem wd_1372 : Cond.code yX7_variableOfLikes cX7_variableOfLikes 1 (some .int) ∈ lw_good := mm_wd 1372 (by decide +kernel) (by decide +kernel)
theorem tT_X7_variableOfLikes : mm_T yX7_variableOfLikes cX7_variableOfLikes 1 (some .int) 0 := ⟨wd_1372, wd_148, by decide +kernel, by decide +kernel, by decide +kernel, by decide +kernel⟩
theorem wd_1369 : Cond.methodLink RX7 194 yX7_variableOfLikes ∈ lw_good := mm_wd 1369 (by decide +kernel) (by decide +kernel)
theorem wd_1371 : Cond.instanceMethod yX7_variableOfLikes ∈ lw_good := mm_wd 1371 (by decide +kernel) (by decide +kernel)
theorem wd_34 : Cond.selects RX7 yX7_variableOfLikes yX7_variableOfLikes ∈ lw_good := mm_wd 34 (by decide +kernel) (by decide +kernel)
theorem wd_1352 : Cond.code yX7_goDeeper cX7_goDeeper 2 (some .boolean) ∈ lw_good := mm_wd 1352 (by decide +kernel) (by decide +kernel)
theorem tT_X7_goDeeper : mm_T yX7_goDeeper cX7_goDeeper 2 (some .boolean) 1 := ⟨wd_1352, wd_148, by decide +kernel, by decide +kernel, by decide +kernel, by decide +kernel⟩
theorem wd_1349 : Cond.methodLink RX7 182 yX7_goDeeper ∈ lw_good := mm_wd 1349 (by decide +kernel) (by decide +kernel)
theorem wd_1351 : Cond.instanceMethod yX7_goDeeper ∈ lw_good := mm_wd 1351 (by decide +kernel) (by decide +kernel)
theorem wd_29 : Cond.selects RX7 yX7_goDeeper yX7_goDeeper ∈ lw_good := mm_wd 29 (by decide +kernel) (by decide +kernel)
theorem wd_1360 : Cond.code yX7_readSum cX7_readSum 5 (some .boolean) ∈ lw_good := mm_wd 1360 (by decide +kernel) (by decide +kernel)
theorem tT_X7_readSum : mm_T yX7_readSum cX7_readSum 5 (some .boolean) 1 := ⟨wd_1360, wd_148, by decide +kernel, by decide +kernel, by decide +kernel, by decide +kernel⟩
theorem wd_1357 : Cond.methodLink RX7 164 yX7_readSum ∈ lw_good := mm_wd 1357 (by decide +kernel) (by decide +kernel)
theorem wd_1359 : Cond.instanceMethod yX7_readSum ∈ lw_good := mm_wd 1359 (by decide +kernel) (by decide +kernel)
theorem wd_31 : Cond.selects RX7 yX7_readSum yX7_readSum ∈ lw_good := mm_wd 31 (by decide +kernel) (by decide +kernel)
theorem wd_1364 : Cond.code yX7_readTerm cX7_readTerm 4 (some .boolean) ∈ lw_good := mm_wd 1364 (by decide +kernel) (by decide +kernel)
theorem tT_X7_readTerm : mm_T yX7_readTerm cX7_readTerm 4 (some .boolean) 1 := ⟨wd_1364, wd_148, by decide +kernel, by decide +kernel, by decide +kernel, by decide +kernel⟩
theorem wd_1361 : Cond.methodLink RX7 188 yX7_readTerm ∈ lw_good := mm_wd 1361 (by decide +kernel) (by decide +kernel)
theorem wd_1363 : Cond.instanceMethod yX7_readTerm ∈ lw_good := mm_wd 1363 (by decide +kernel) (by decide +kernel)
theorem wd_32 : Cond.selects RX7 yX7_readTerm yX7_readTerm ∈ lw_good := mm_wd 32 (by decide +kernel) (by decide +kernel)
theorem wd_1368 : Cond.code yX7_readAtom cX7_readAtom 3 (some .boolean) ∈ lw_good := mm_wd 1368 (by decide +kernel) (by decide +kernel)
theorem tT_X7_readAtom : mm_T yX7_readAtom cX7_readAtom 3 (some .boolean) 1 := ⟨wd_1368, wd_148, by decide +kernel, by decide +kernel, by decide +kernel, by decide +kernel⟩
theorem wd_1365 : Cond.methodLink RX7 191 yX7_readAtom ∈ lw_good := mm_wd 1365 (by decide +kernel) (by decide +kernel)
theorem wd_1367 : Cond.instanceMethod yX7_readAtom ∈ lw_good := mm_wd 1367 (by decide +kernel) (by decide +kernel)
theorem wd_33 : Cond.selects RX7 yX7_readAtom yX7_readAtom ∈ lw_good := mm_wd 33 (by decide +kernel) (by decide +kernel)
abbrev PT_X7_readAtom : Type := (Option Nat → Int32 → MH → Option (Int32 × MH)) × (Option Nat → Int32 → MH → Option (Int32 × MH)) × (Option Nat → Int32 → MH → Option (Int32 × MH))
def PH_X7_readAtom (p : PT_X7_readAtom) (d0 : Nat) : Prop := (∀ d : Nat, d0 ≤ d → ∀ {a0 : Option Nat} {a1 : Int32} {h : MH} {r : Int32} {hz : MH}, p.1 a0 a1 h = some (r, hz) → mm_M yX7_readAtom cX7_readAtom 3 (some .boolean) d [va_rf a0, .int a1] h (.inr (some (.int r))) hz) ∧ (∀ d : Nat, d0 ≤ d → ∀ {a0 : Option Nat} {a1 : Int32} {h : MH} {r : Int32} {hz : MH}, p.2.1 a0 a1 h = some (r, hz) → mm_M yX7_readSum cX7_readSum 5 (some .boolean) d [va_rf a0, .int a1] h (.inr (some (.int r))) hz) ∧ (∀ d : Nat, d0 ≤ d → ∀ {a0 : Option Nat} {a1 : Int32} {h : MH} {r : Int32} {hz : MH}, p.2.2 a0 a1 h = some (r, hz) → mm_M yX7_readTerm cX7_readTerm 4 (some .boolean) d [va_rf a0, .int a1] h (.inr (some (.int r))) hz)
def F_X7_readAtom_94 (p : PT_X7_readAtom) (l0 : Option Nat) (s0 : Int32) (h : MH) : Option (Int32 × MH) := if s0 = ((-1) : Int32) then (mm_b2 (cV h l0 7 (F_X7_refuse l0 (2 : Int32) h)) fun v102 h102 => rZ v102 h102) else ((cV h l0 7 (F_X7_emit l0 ((1000 : Int32) + s0) h)).bind fun h112 => (gR h112 l0 7 0).bind fun v116 => (cV h112 v116 9 (F_X9_advance v116 h112)).bind fun h119 => rZ (1 : Int32) h119)
set_option maxRecDepth 20000 in
set_option maxHeartbeats 4000000 in
theorem w_X7_readAtom_94 {d : Nat} {V : Nat → List (Nat × Value) → List Value → MH → Prop} {r : Int32} {hz : MH} {p : PT_X7_readAtom} {d0 : Nat} (hd0 : d0 + 1 ≤ d) (hp : PH_X7_readAtom p d0) (hd : 7 ≤ d) (C : mm_C d yX7_readAtom cX7_readAtom 3 (some .boolean) (.inr (some (.int r))) hz V) (l0 : Option Nat) (s0 : Int32) (h : MH) (hK : F_X7_readAtom_94 p l0 s0 h = some (r, hz)) : V 94 [(0, va_rf l0)] [.int s0] h := by
  unfold F_X7_readAtom_94 at hK
  refine mm_istore_n C (pc := 94) (i := 2) (lv' := [(2, .int s0), (0, va_rf l0)]) dX7_readAtom_94 rfl (by decide) rfl ?_
  refine mm_iload_n C (pc := 95) 0 dX7_readAtom_95 rfl ?_
  refine mm_iconst C (pc := 96) (v := ((-1) : Int32)) dX7_readAtom_96 (by decide) ?_
  refine mm_icmp_ne C (pc := 97) (tgt := 106) dX7_readAtom_97 (by decide) (fun hc => ?_) (fun hc => ?_)
  · replace hK := mm_in hc hK
    refine mm_aload_n C (pc := 106) 1 dX7_readAtom_106 rfl ?_
    refine mm_sipush C (pc := 107) (v := (1000 : Int32)) dX7_readAtom_107 (by decide) ?_
    refine mm_iload_n C (pc := 110) 0 dX7_readAtom_110 rfl ?_
    refine mm_iadd C (pc := 111) dX7_readAtom_111 ?_
    replace hK := mm_bd hK; obtain ⟨h112, e112, hK⟩ := hK
    obtain ⟨o112, e112⟩ := cV_some e112
    refine mm_callV C (pc := 112) (d1 := 1) (As := [.int ((1000 : Int32) + s0)]) (st := []) (vk := none) ((S_X7_emit (by omega)) e112) tT_X7_emit o112 (Or.inr ⟨_, rfl, rfl⟩) wd_1353 wd_1355 wd_30 (by omega) (by decide) rfl (by simp [mm_crf, mm_cti, mm_ctl]) rfl dX7_readAtom_112 ?_
    show V _ _ [] _
    refine mm_aload_n C (pc := 115) 1 dX7_readAtom_115 rfl ?_
    replace hK := mm_bd hK; obtain ⟨v116, e116, hK⟩ := hK
    refine mm_getr C (pc := 116) (k := 0) inGX7 rfl (by decide) wd_351 dX7_readAtom_116 e116 ?_
    replace hK := mm_bd hK; obtain ⟨h119, e119, hK⟩ := hK
    obtain ⟨o119, e119⟩ := cV_some e119
    refine mm_callV C (pc := 119) (d1 := 5) (As := []) (st := []) (vk := none) ((S_X9_advance (by omega)) e119) tT_X9_advance o119 (Or.inr ⟨_, rfl, rfl⟩) wd_1289 wd_1185 wd_1186 (by omega) (by decide) rfl (by simp [mm_crf, mm_cti, mm_ctl]) rfl dX7_readAtom_119 ?_
    show V _ _ [] _
    refine mm_iconst C (pc := 122) (v := (1 : Int32)) dX7_readAtom_122 (by decide) ?_
    replace hK := rZ_some hK; obtain ⟨hv123, hK⟩ := hK
    cases hK
    exact mm_zret C (pc := 123) rfl (mm_nrZ hv123) dX7_readAtom_123 rfl rfl
  · replace hK := mm_ip hc hK
    refine mm_aload_n C (pc := 100) 1 dX7_readAtom_100 rfl ?_
    refine mm_iconst C (pc := 101) (v := (2 : Int32)) dX7_readAtom_101 (by decide) ?_
    replace hK := mm_b2s hK; obtain ⟨v102, h102, e102, hK⟩ := hK
    obtain ⟨o102, e102⟩ := cV_some e102
    refine mm_callV C (pc := 102) (d1 := 2) (As := [.int (2 : Int32)]) (st := []) (vk := (some (.int v102))) ((S_X7_refuse (by omega)) e102) tT_X7_refuse o102 (Or.inr ⟨_, rfl, rfl⟩) wd_1277 wd_1279 wd_19 (by omega) (by decide) rfl (by simp [mm_crf, mm_cti, mm_ctl]) rfl dX7_readAtom_102 ?_
    show V _ _ (.int v102 :: _) _
    replace hK := rZ_some hK; obtain ⟨hv105, hK⟩ := hK
    cases hK
    exact mm_zret C (pc := 105) rfl (mm_nrZ hv105) dX7_readAtom_105 rfl rfl
def F_X7_readAtom_44 (p : PT_X7_readAtom) (s0 : Int32) (h : MH) : Option (Int32 × MH) := rZ s0 h
set_option maxRecDepth 20000 in
set_option maxHeartbeats 4000000 in
theorem w_X7_readAtom_44 {d : Nat} {V : Nat → List (Nat × Value) → List Value → MH → Prop} {r : Int32} {hz : MH} {p : PT_X7_readAtom} {d0 : Nat} (hd0 : d0 + 1 ≤ d) (hp : PH_X7_readAtom p d0) (hd : 7 ≤ d) (C : mm_C d yX7_readAtom cX7_readAtom 3 (some .boolean) (.inr (some (.int r))) hz V) (s0 : Int32) (h : MH) (hK : F_X7_readAtom_44 p s0 h = some (r, hz)) : V 44 [] [.int s0] h := by
  unfold F_X7_readAtom_44 at hK
  replace hK := rZ_some hK; obtain ⟨hv44, hK⟩ := hK
  cases hK
  exact mm_zret C (pc := 44) rfl (mm_nrZ hv44) dX7_readAtom_44 rfl rfl
def F_X7_readAtom_43 (p : PT_X7_readAtom) (h : MH) : Option (Int32 × MH) := F_X7_readAtom_44 p (0 : Int32) h
set_option maxRecDepth 20000 in
set_option maxHeartbeats 4000000 in
theorem w_X7_readAtom_43 {d : Nat} {V : Nat → List (Nat × Value) → List Value → MH → Prop} {r : Int32} {hz : MH} {p : PT_X7_readAtom} {d0 : Nat} (hd0 : d0 + 1 ≤ d) (hp : PH_X7_readAtom p d0) (hd : 7 ≤ d) (C : mm_C d yX7_readAtom cX7_readAtom 3 (some .boolean) (.inr (some (.int r))) hz V) (h : MH) (hK : F_X7_readAtom_43 p  h = some (r, hz)) : V 43 [] [] h := by
  unfold F_X7_readAtom_43 at hK
  refine mm_iconst C (pc := 43) (v := (0 : Int32)) dX7_readAtom_43 (by decide) ?_
  exact w_X7_readAtom_44 hd0 hp hd C _ _ hK
def F_X7_readAtom (p : PT_X7_readAtom) (a0 : Option Nat) (a1 : Int32) (h : MH) : Option (Int32 × MH) := (gR h a0 7 0).bind fun v1 => mm_b2 (cV h v1 9 (F_X9_isSign v1 (40 : Int32) h)) fun v6 h6 => if v6 = 0 then ((gR h6 a0 7 0).bind fun v46 => mm_b2 (cV h6 v46 9 (F_X9_isNumber v46 h6)) fun v49 h49 => if v49 = 0 then ((gI h49 a0 7 12).bind fun v76 => if v76 = (1 : Int32) then (mm_b2 (cV h49 a0 7 (F_X7_variableOfLikes a0 h49)) fun v84 h84 => F_X7_readAtom_94 p a0 v84 h84) else (mm_b2 (cV h49 a0 7 (F_X7_variableOfCalls a0 h49)) fun v91 h91 => F_X7_readAtom_94 p a0 v91 h91)) else ((gR h49 a0 7 0).bind fun v57 => mm_b2 (cV h49 v57 9 (F_X9_number v57 h49)) fun v60 h60 => (cV h60 a0 7 (F_X7_emit a0 v60 h60)).bind fun h63 => (gR h63 a0 7 0).bind fun v67 => (cV h63 v67 9 (F_X9_advance v67 h63)).bind fun h70 => rZ (1 : Int32) h70)) else (mm_b2 (cV h6 a0 7 (F_X7_goDeeper a0 a1 h6)) fun v14 h14 => if v14 = 0 then (F_X7_readAtom_43 p h14) else (mm_b2 (cV h14 a0 7 (p.2.1 a0 (a1 + (1 : Int32)) h14)) fun v24 h24 => if v24 = 0 then (F_X7_readAtom_43 p h24) else (mm_b2 (cV h24 a0 7 (F_X7_takeSign a0 (41 : Int32) h24)) fun v33 h33 => if v33 = 0 then (F_X7_readAtom_43 p h33) else (F_X7_readAtom_44 p (1 : Int32) h33))))
set_option maxRecDepth 20000 in
set_option maxHeartbeats 4000000 in
theorem S_X7_readAtom {d : Nat} {p : PT_X7_readAtom} {d0 : Nat} (hd0 : d0 + 1 ≤ d) (hp : PH_X7_readAtom p d0) (hd : 7 ≤ d) {a0 : Option Nat} {a1 : Int32} {h : MH} {r : Int32} {hz : MH} (hK : F_X7_readAtom p a0 a1 h = some (r, hz)) : mm_M yX7_readAtom cX7_readAtom 3 (some .boolean) d [va_rf a0, .int a1] h (.inr (some (.int r))) hz := by
  refine mm_ofV (by decide +kernel) (by simp [lg_sl, mm_crf, mm_cti, mm_ctl]) (fun V C => ?_)
  rw [show lv_args 0 [va_rf a0, .int a1] = [(0, va_rf a0), (1, .int a1)] by simp [lv_args, mm_crf, mm_cti, mm_ctl]]
  unfold F_X7_readAtom at hK
  refine mm_aload_n C (pc := 0) 0 dX7_readAtom_0 rfl ?_
  replace hK := mm_bd hK; obtain ⟨v1, e1, hK⟩ := hK
  refine mm_getr C (pc := 1) (k := 0) inGX7 rfl (by decide) wd_351 dX7_readAtom_1 e1 ?_
  refine mm_bipush C (pc := 4) (v := (40 : Int32)) dX7_readAtom_4 (by decide) ?_
  replace hK := mm_b2s hK; obtain ⟨v6, h6, e6, hK⟩ := hK
  obtain ⟨o6, e6⟩ := cV_some e6
  refine mm_callV C (pc := 6) (d1 := 1) (As := [.int (40 : Int32)]) (st := []) (vk := (some (.int v6))) ((S_X9_isSign (by omega)) e6) tT_X9_isSign o6 (Or.inr ⟨_, rfl, rfl⟩) wd_1310 wd_1311 wd_1312 (by omega) (by decide) rfl (by simp [mm_crf, mm_cti, mm_ctl]) rfl dX7_readAtom_6 ?_
  show V _ _ (.int v6 :: _) _
  refine mm_if_eq C (pc := 9) (tgt := 45) dX7_readAtom_9 (by decide) (fun hc => ?_) (fun hc => ?_)
  · replace hK := mm_ip hc hK
    refine mm_aload_n C (pc := 45) 0 dX7_readAtom_45 rfl ?_
    replace hK := mm_bd hK; obtain ⟨v46, e46, hK⟩ := hK
    refine mm_getr C (pc := 46) (k := 0) inGX7 rfl (by decide) wd_351 dX7_readAtom_46 e46 ?_
    replace hK := mm_b2s hK; obtain ⟨v49, h49, e49, hK⟩ := hK
    obtain ⟨o49, e49⟩ := cV_some e49
    refine mm_callV C (pc := 49) (d1 := 1) (As := []) (st := []) (vk := (some (.int v49))) ((S_X9_isNumber (by omega)) e49) tT_X9_isNumber o49 (Or.inr ⟨_, rfl, rfl⟩) wd_1294 wd_1295 wd_1296 (by omega) (by decide) rfl (by simp [mm_crf, mm_cti, mm_ctl]) rfl dX7_readAtom_49 ?_
    show V _ _ (.int v49 :: _) _
    refine mm_if_eq C (pc := 52) (tgt := 75) dX7_readAtom_52 (by decide) (fun hc => ?_) (fun hc => ?_)
    · replace hK := mm_ip hc hK
      refine mm_aload_n C (pc := 75) 0 dX7_readAtom_75 rfl ?_
      replace hK := mm_bd hK; obtain ⟨v76, e76, hK⟩ := hK
      refine mm_geti C (pc := 76) (k := 12) inGX7 rfl (by decide) wd_363 dX7_readAtom_76 e76 ?_
      refine mm_iconst C (pc := 79) (v := (1 : Int32)) dX7_readAtom_79 (by decide) ?_
      refine mm_icmp_ne C (pc := 80) (tgt := 90) dX7_readAtom_80 (by decide) (fun hc => ?_) (fun hc => ?_)
      · replace hK := mm_in hc hK
        refine mm_aload_n C (pc := 90) 0 dX7_readAtom_90 rfl ?_
        replace hK := mm_b2s hK; obtain ⟨v91, h91, e91, hK⟩ := hK
        obtain ⟨o91, e91⟩ := cV_some e91
        refine mm_callV C (pc := 91) (d1 := 6) (As := []) (st := []) (vk := (some (.int v91))) ((S_X7_variableOfCalls (by omega)) e91) tT_X7_variableOfCalls o91 (Or.inr ⟨_, rfl, rfl⟩) wd_1375 wd_1377 wd_35 (by omega) (by decide) rfl (by simp [mm_crf, mm_cti, mm_ctl]) rfl dX7_readAtom_91 ?_
        show V _ _ (.int v91 :: _) _
        refine mm_sub C [0] rfl ?_
        exact w_X7_readAtom_94 hd0 hp hd C _ _ _ hK
      · replace hK := mm_ip hc hK
        refine mm_aload_n C (pc := 83) 0 dX7_readAtom_83 rfl ?_
        replace hK := mm_b2s hK; obtain ⟨v84, h84, e84, hK⟩ := hK
        obtain ⟨o84, e84⟩ := cV_some e84
        refine mm_callV C (pc := 84) (d1 := 6) (As := []) (st := []) (vk := (some (.int v84))) ((S_X7_variableOfLikes (by omega)) e84) tT_X7_variableOfLikes o84 (Or.inr ⟨_, rfl, rfl⟩) wd_1369 wd_1371 wd_34 (by omega) (by decide) rfl (by simp [mm_crf, mm_cti, mm_ctl]) rfl dX7_readAtom_84 ?_
        show V _ _ (.int v84 :: _) _
        refine mm_goto C (pc := 87) (tgt := 94) dX7_readAtom_87 (by decide) ?_
        refine mm_sub C [0] rfl ?_
        exact w_X7_readAtom_94 hd0 hp hd C _ _ _ hK
    · replace hK := mm_in hc hK
      refine mm_aload_n C (pc := 55) 0 dX7_readAtom_55 rfl ?_
      refine mm_aload_n C (pc := 56) 0 dX7_readAtom_56 rfl ?_
      replace hK := mm_bd hK; obtain ⟨v57, e57, hK⟩ := hK
      refine mm_getr C (pc := 57) (k := 0) inGX7 rfl (by decide) wd_351 dX7_readAtom_57 e57 ?_
      replace hK := mm_b2s hK; obtain ⟨v60, h60, e60, hK⟩ := hK
      obtain ⟨o60, e60⟩ := cV_some e60
      refine mm_callV C (pc := 60) (d1 := 1) (As := []) (st := [va_rf a0]) (vk := (some (.int v60))) ((S_X9_number (by omega)) e60) tT_X9_number o60 (Or.inr ⟨_, rfl, rfl⟩) wd_1298 wd_1299 wd_1300 (by omega) (by decide) rfl (by simp [mm_crf, mm_cti, mm_ctl]) rfl dX7_readAtom_60 ?_
      show V _ _ (.int v60 :: _) _
      replace hK := mm_bd hK; obtain ⟨h63, e63, hK⟩ := hK
      obtain ⟨o63, e63⟩ := cV_some e63
      refine mm_callV C (pc := 63) (d1 := 1) (As := [.int v60]) (st := []) (vk := none) ((S_X7_emit (by omega)) e63) tT_X7_emit o63 (Or.inr ⟨_, rfl, rfl⟩) wd_1353 wd_1355 wd_30 (by omega) (by decide) rfl (by simp [mm_crf, mm_cti, mm_ctl]) rfl dX7_readAtom_63 ?_
      show V _ _ [] _
      refine mm_aload_n C (pc := 66) 0 dX7_readAtom_66 rfl ?_
      replace hK := mm_bd hK; obtain ⟨v67, e67, hK⟩ := hK
      refine mm_getr C (pc := 67) (k := 0) inGX7 rfl (by decide) wd_351 dX7_readAtom_67 e67 ?_
      replace hK := mm_bd hK; obtain ⟨h70, e70, hK⟩ := hK
      obtain ⟨o70, e70⟩ := cV_some e70
      refine mm_callV C (pc := 70) (d1 := 5) (As := []) (st := []) (vk := none) ((S_X9_advance (by omega)) e70) tT_X9_advance o70 (Or.inr ⟨_, rfl, rfl⟩) wd_1289 wd_1185 wd_1186 (by omega) (by decide) rfl (by simp [mm_crf, mm_cti, mm_ctl]) rfl dX7_readAtom_70 ?_
      show V _ _ [] _
      refine mm_iconst C (pc := 73) (v := (1 : Int32)) dX7_readAtom_73 (by decide) ?_
      replace hK := rZ_some hK; obtain ⟨hv74, hK⟩ := hK
      cases hK
      exact mm_zret C (pc := 74) rfl (mm_nrZ hv74) dX7_readAtom_74 rfl rfl
  · replace hK := mm_in hc hK
    refine mm_aload_n C (pc := 12) 0 dX7_readAtom_12 rfl ?_
    refine mm_iload_n C (pc := 13) 1 dX7_readAtom_13 rfl ?_
    replace hK := mm_b2s hK; obtain ⟨v14, h14, e14, hK⟩ := hK
    obtain ⟨o14, e14⟩ := cV_some e14
    refine mm_callV C (pc := 14) (d1 := 6) (As := [.int a1]) (st := []) (vk := (some (.int v14))) ((S_X7_goDeeper (by omega)) e14) tT_X7_goDeeper o14 (Or.inr ⟨_, rfl, rfl⟩) wd_1349 wd_1351 wd_29 (by omega) (by decide) rfl (by simp [mm_crf, mm_cti, mm_ctl]) rfl dX7_readAtom_14 ?_
    show V _ _ (.int v14 :: _) _
    refine mm_if_eq C (pc := 17) (tgt := 43) dX7_readAtom_17 (by decide) (fun hc => ?_) (fun hc => ?_)
    · replace hK := mm_ip hc hK
      refine mm_sub C [] rfl ?_
      exact w_X7_readAtom_43 hd0 hp hd C _ hK
    · replace hK := mm_in hc hK
      refine mm_aload_n C (pc := 20) 0 dX7_readAtom_20 rfl ?_
      refine mm_iload_n C (pc := 21) 1 dX7_readAtom_21 rfl ?_
      refine mm_iconst C (pc := 22) (v := (1 : Int32)) dX7_readAtom_22 (by decide) ?_
      refine mm_iadd C (pc := 23) dX7_readAtom_23 ?_
      replace hK := mm_b2s hK; obtain ⟨v24, h24, e24, hK⟩ := hK
      obtain ⟨o24, e24⟩ := cV_some e24
      refine mm_callV C (pc := 24) (d1 := d0) (As := [.int (a1 + (1 : Int32))]) (st := []) (vk := (some (.int v24))) ((hp.2.1 _ (by omega) ) e24) tT_X7_readSum o24 (Or.inr ⟨_, rfl, rfl⟩) wd_1357 wd_1359 wd_31 (by omega) (by decide) rfl (by simp [mm_crf, mm_cti, mm_ctl]) rfl dX7_readAtom_24 ?_
      show V _ _ (.int v24 :: _) _
      refine mm_if_eq C (pc := 27) (tgt := 43) dX7_readAtom_27 (by decide) (fun hc => ?_) (fun hc => ?_)
      · replace hK := mm_ip hc hK
        refine mm_sub C [] rfl ?_
        exact w_X7_readAtom_43 hd0 hp hd C _ hK
      · replace hK := mm_in hc hK
        refine mm_aload_n C (pc := 30) 0 dX7_readAtom_30 rfl ?_
        refine mm_bipush C (pc := 31) (v := (41 : Int32)) dX7_readAtom_31 (by decide) ?_
        replace hK := mm_b2s hK; obtain ⟨v33, h33, e33, hK⟩ := hK
        obtain ⟨o33, e33⟩ := cV_some e33
        refine mm_callV C (pc := 33) (d1 := 6) (As := [.int (41 : Int32)]) (st := []) (vk := (some (.int v33))) ((S_X7_takeSign (by omega)) e33) tT_X7_takeSign o33 (Or.inr ⟨_, rfl, rfl⟩) wd_1306 wd_1308 wd_22 (by omega) (by decide) rfl (by simp [mm_crf, mm_cti, mm_ctl]) rfl dX7_readAtom_33 ?_
        show V _ _ (.int v33 :: _) _
        refine mm_if_eq C (pc := 36) (tgt := 43) dX7_readAtom_36 (by decide) (fun hc => ?_) (fun hc => ?_)
        · replace hK := mm_ip hc hK
          refine mm_sub C [] rfl ?_
          exact w_X7_readAtom_43 hd0 hp hd C _ hK
        · replace hK := mm_in hc hK
          refine mm_iconst C (pc := 39) (v := (1 : Int32)) dX7_readAtom_39 (by decide) ?_
          refine mm_goto C (pc := 40) (tgt := 44) dX7_readAtom_40 (by decide) ?_
          refine mm_sub C [] rfl ?_
          exact w_X7_readAtom_44 hd0 hp hd C _ _ hK
def F_X7_readSum_91 (p : PT_X7_readAtom) (l2 : Int32) (h : MH) : Option (Int32 × MH) := rZ l2 h
set_option maxRecDepth 20000 in
set_option maxHeartbeats 4000000 in
theorem w_X7_readSum_91 {d : Nat} {V : Nat → List (Nat × Value) → List Value → MH → Prop} {r : Int32} {hz : MH} {p : PT_X7_readAtom} {d0 : Nat} (hd0 : d0 + 1 ≤ d) (hp : PH_X7_readAtom p d0) (hd : 6 ≤ d) (C : mm_C d yX7_readSum cX7_readSum 5 (some .boolean) (.inr (some (.int r))) hz V) (l2 : Int32) (h : MH) (hK : F_X7_readSum_91 p l2 h = some (r, hz)) : V 91 [(2, .int l2)] [] h := by
  unfold F_X7_readSum_91 at hK
  refine mm_iload_n C (pc := 91) 0 dX7_readSum_91 rfl ?_
  replace hK := rZ_some hK; obtain ⟨hv92, hK⟩ := hK
  cases hK
  exact mm_zret C (pc := 92) rfl (mm_nrZ hv92) dX7_readSum_92 rfl rfl
def F_X7_readSum_64 (p : PT_X7_readAtom) (k8 : Option Nat → Int32 → Int32 → Int32 → MH → Option (Int32 × MH)) (l0 : Option Nat) (l1 : Int32) (l3 : Int32) (s0 : Int32) (h : MH) : Option (Int32 × MH) := (gR h l0 7 0).bind fun v67 => (cV h v67 9 (F_X9_advance v67 h)).bind fun h70 => mm_b2 (cV h70 l0 7 (p.2.2 l0 l1 h70)) fun v75 h75 => (cV h75 l0 7 (F_X7_emit l0 s0 h75)).bind fun h82 => k8 l0 l1 v75 (l3 + (1 : Int32)) h82
set_option maxRecDepth 20000 in
set_option maxHeartbeats 4000000 in
theorem w_X7_readSum_64 {d : Nat} {V : Nat → List (Nat × Value) → List Value → MH → Prop} {r : Int32} {hz : MH} {p : PT_X7_readAtom} {d0 : Nat} (hd0 : d0 + 1 ≤ d) (hp : PH_X7_readAtom p d0) {k8 : Option Nat → Int32 → Int32 → Int32 → MH → Option (Int32 × MH)} (hd : 6 ≤ d) (C : mm_C d yX7_readSum cX7_readSum 5 (some .boolean) (.inr (some (.int r))) hz V) (q8 : ∀ (x0 : Option Nat) (x1 : Int32) (x2 : Int32) (x3 : Int32) (h : MH), k8 x0 x1 x2 x3 h = some (r, hz) → V 8 [(0, va_rf x0), (1, .int x1), (2, .int x2), (3, .int x3)] [] h) (l0 : Option Nat) (l1 : Int32) (l3 : Int32) (s0 : Int32) (h : MH) (hK : F_X7_readSum_64 p k8 l0 l1 l3 s0 h = some (r, hz)) : V 64 [(0, va_rf l0), (1, .int l1), (3, .int l3)] [.int s0] h := by
  unfold F_X7_readSum_64 at hK
  refine mm_istore C (pc := 64) (i := 4) (lv' := [(4, .int s0), (0, va_rf l0), (1, .int l1), (3, .int l3)]) dX7_readSum_64 (by decide) rfl ?_
  refine mm_aload_n C (pc := 66) 1 dX7_readSum_66 rfl ?_
  replace hK := mm_bd hK; obtain ⟨v67, e67, hK⟩ := hK
  refine mm_getr C (pc := 67) (k := 0) inGX7 rfl (by decide) wd_351 dX7_readSum_67 e67 ?_
  replace hK := mm_bd hK; obtain ⟨h70, e70, hK⟩ := hK
  obtain ⟨o70, e70⟩ := cV_some e70
  refine mm_callV C (pc := 70) (d1 := 5) (As := []) (st := []) (vk := none) ((S_X9_advance (by omega)) e70) tT_X9_advance o70 (Or.inr ⟨_, rfl, rfl⟩) wd_1289 wd_1185 wd_1186 (by omega) (by decide) rfl (by simp [mm_crf, mm_cti, mm_ctl]) rfl dX7_readSum_70 ?_
  show V _ _ [] _
  refine mm_aload_n C (pc := 73) 1 dX7_readSum_73 rfl ?_
  refine mm_iload_n C (pc := 74) 2 dX7_readSum_74 rfl ?_
  replace hK := mm_b2s hK; obtain ⟨v75, h75, e75, hK⟩ := hK
  obtain ⟨o75, e75⟩ := cV_some e75
  refine mm_callV C (pc := 75) (d1 := d0) (As := [.int l1]) (st := []) (vk := (some (.int v75))) ((hp.2.2 _ (by omega) ) e75) tT_X7_readTerm o75 (Or.inr ⟨_, rfl, rfl⟩) wd_1361 wd_1363 wd_32 (by omega) (by decide) rfl (by simp [mm_crf, mm_cti, mm_ctl]) rfl dX7_readSum_75 ?_
  show V _ _ (.int v75 :: _) _
  refine mm_istore_n C (pc := 78) (i := 2) (lv' := [(2, .int v75), (4, .int s0), (0, va_rf l0), (1, .int l1), (3, .int l3)]) dX7_readSum_78 rfl (by decide) rfl ?_
  refine mm_aload_n C (pc := 79) 2 dX7_readSum_79 rfl ?_
  refine mm_iload C (pc := 80) 1 dX7_readSum_80 rfl ?_
  replace hK := mm_bd hK; obtain ⟨h82, e82, hK⟩ := hK
  obtain ⟨o82, e82⟩ := cV_some e82
  refine mm_callV C (pc := 82) (d1 := 1) (As := [.int s0]) (st := []) (vk := none) ((S_X7_emit (by omega)) e82) tT_X7_emit o82 (Or.inr ⟨_, rfl, rfl⟩) wd_1353 wd_1355 wd_30 (by omega) (by decide) rfl (by simp [mm_crf, mm_cti, mm_ctl]) rfl dX7_readSum_82 ?_
  show V _ _ [] _
  refine mm_iinc C (pc := 85) (v := (l3 + (1 : Int32))) (lv' := [(3, .int (l3 + (1 : Int32))), (2, .int v75), (4, .int s0), (0, va_rf l0), (1, .int l1)]) 4 dX7_readSum_85 rfl rfl (by decide) rfl ?_
  refine mm_goto C (pc := 88) (tgt := 8) dX7_readSum_88 (by decide) ?_
  refine mm_sub C [3, 4, 1, 0] rfl ?_
  exact q8 _ _ _ _ _ hK
def F_X7_readSum_43 (p : PT_X7_readAtom) (k8 : Option Nat → Int32 → Int32 → Int32 → MH → Option (Int32 × MH)) (l0 : Option Nat) (l1 : Int32) (l3 : Int32) (h : MH) : Option (Int32 × MH) := (gR h l0 7 0).bind fun v44 => mm_b2 (cV h v44 9 (F_X9_isSign v44 (43 : Int32) h)) fun v49 h49 => if v49 = 0 then (F_X7_readSum_64 p k8 l0 l1 l3 (2001 : Int32) h49) else (F_X7_readSum_64 p k8 l0 l1 l3 (2000 : Int32) h49)
set_option maxRecDepth 20000 in
set_option maxHeartbeats 4000000 in
theorem w_X7_readSum_43 {d : Nat} {V : Nat → List (Nat × Value) → List Value → MH → Prop} {r : Int32} {hz : MH} {p : PT_X7_readAtom} {d0 : Nat} (hd0 : d0 + 1 ≤ d) (hp : PH_X7_readAtom p d0) {k8 : Option Nat → Int32 → Int32 → Int32 → MH → Option (Int32 × MH)} (hd : 6 ≤ d) (C : mm_C d yX7_readSum cX7_readSum 5 (some .boolean) (.inr (some (.int r))) hz V) (q8 : ∀ (x0 : Option Nat) (x1 : Int32) (x2 : Int32) (x3 : Int32) (h : MH), k8 x0 x1 x2 x3 h = some (r, hz) → V 8 [(0, va_rf x0), (1, .int x1), (2, .int x2), (3, .int x3)] [] h) (l0 : Option Nat) (l1 : Int32) (l3 : Int32) (h : MH) (hK : F_X7_readSum_43 p k8 l0 l1 l3 h = some (r, hz)) : V 43 [(0, va_rf l0), (1, .int l1), (3, .int l3)] [] h := by
  unfold F_X7_readSum_43 at hK
  refine mm_aload_n C (pc := 43) 0 dX7_readSum_43 rfl ?_
  replace hK := mm_bd hK; obtain ⟨v44, e44, hK⟩ := hK
  refine mm_getr C (pc := 44) (k := 0) inGX7 rfl (by decide) wd_351 dX7_readSum_44 e44 ?_
  refine mm_bipush C (pc := 47) (v := (43 : Int32)) dX7_readSum_47 (by decide) ?_
  replace hK := mm_b2s hK; obtain ⟨v49, h49, e49, hK⟩ := hK
  obtain ⟨o49, e49⟩ := cV_some e49
  refine mm_callV C (pc := 49) (d1 := 1) (As := [.int (43 : Int32)]) (st := []) (vk := (some (.int v49))) ((S_X9_isSign (by omega)) e49) tT_X9_isSign o49 (Or.inr ⟨_, rfl, rfl⟩) wd_1310 wd_1311 wd_1312 (by omega) (by decide) rfl (by simp [mm_crf, mm_cti, mm_ctl]) rfl dX7_readSum_49 ?_
  show V _ _ (.int v49 :: _) _
  refine mm_if_eq C (pc := 52) (tgt := 61) dX7_readSum_52 (by decide) (fun hc => ?_) (fun hc => ?_)
  · replace hK := mm_ip hc hK
    refine mm_sipush C (pc := 61) (v := (2001 : Int32)) dX7_readSum_61 (by decide) ?_
    exact w_X7_readSum_64 hd0 hp hd C (fun z0 z1 z2 z3 z4 hK => q8 z0 z1 z2 z3 z4 hK) _ _ _ _ _ hK
  · replace hK := mm_in hc hK
    refine mm_sipush C (pc := 55) (v := (2000 : Int32)) dX7_readSum_55 (by decide) ?_
    refine mm_goto C (pc := 58) (tgt := 64) dX7_readSum_58 (by decide) ?_
    exact w_X7_readSum_64 hd0 hp hd C (fun z0 z1 z2 z3 z4 hK => q8 z0 z1 z2 z3 z4 hK) _ _ _ _ _ hK
def F_X7_readSum_8 (p : PT_X7_readAtom) : Nat → Option Nat → Int32 → Int32 → Int32 → MH → Option (Int32 × MH)
  | 0 => fun _ _ _ _ _ => none
  | n + 1 => fun l0 l1 l2 l3 h => if (900 : Int32) ≤ l3 then (F_X7_readSum_91 p l2 h) else (if l2 = 0 then (F_X7_readSum_91 p l2 h) else ((gR h l0 7 0).bind fun v20 => mm_b2 (cV h v20 9 (F_X9_isSign v20 (43 : Int32) h)) fun v25 h25 => if v25 = 0 then ((gR h25 l0 7 0).bind fun v32 => mm_b2 (cV h25 v32 9 (F_X9_isSign v32 (45 : Int32) h25)) fun v37 h37 => if v37 = 0 then (F_X7_readSum_91 p l2 h37) else (F_X7_readSum_43 p (F_X7_readSum_8 p n) l0 l1 l3 h37)) else (F_X7_readSum_43 p (F_X7_readSum_8 p n) l0 l1 l3 h25)))
set_option maxRecDepth 20000 in
set_option maxHeartbeats 4000000 in
theorem w_X7_readSum_8 {d : Nat} {V : Nat → List (Nat × Value) → List Value → MH → Prop} {r : Int32} {hz : MH} {p : PT_X7_readAtom} {d0 : Nat} (hd0 : d0 + 1 ≤ d) (hp : PH_X7_readAtom p d0) (hd : 6 ≤ d) (C : mm_C d yX7_readSum cX7_readSum 5 (some .boolean) (.inr (some (.int r))) hz V) : ∀ (n : Nat) (l0 : Option Nat) (l1 : Int32) (l2 : Int32) (l3 : Int32) (h : MH), F_X7_readSum_8 p n l0 l1 l2 l3 h = some (r, hz) → V 8 [(0, va_rf l0), (1, .int l1), (2, .int l2), (3, .int l3)] [] h := by
  intro n
  induction n with
  | zero => intro l0 l1 l2 l3 h hK; cases hK
  | succ n ih =>
    intro l0 l1 l2 l3 h hK
    replace hK : (if (900 : Int32) ≤ l3 then (F_X7_readSum_91 p l2 h) else (if l2 = 0 then (F_X7_readSum_91 p l2 h) else ((gR h l0 7 0).bind fun v20 => mm_b2 (cV h v20 9 (F_X9_isSign v20 (43 : Int32) h)) fun v25 h25 => if v25 = 0 then ((gR h25 l0 7 0).bind fun v32 => mm_b2 (cV h25 v32 9 (F_X9_isSign v32 (45 : Int32) h25)) fun v37 h37 => if v37 = 0 then (F_X7_readSum_91 p l2 h37) else (F_X7_readSum_43 p (F_X7_readSum_8 p n) l0 l1 l3 h37)) else (F_X7_readSum_43 p (F_X7_readSum_8 p n) l0 l1 l3 h25)))) = some (r, hz) := hK
    refine mm_iload_n C (pc := 8) 3 dX7_readSum_8 rfl ?_
    refine mm_sipush C (pc := 9) (v := (900 : Int32)) dX7_readSum_9 (by decide) ?_
    refine mm_icmp_ge C (pc := 12) (tgt := 91) dX7_readSum_12 (by decide) (fun hc => ?_) (fun hc => ?_)
    · replace hK := mm_ip hc hK
      refine mm_sub C [2] rfl ?_
      exact w_X7_readSum_91 hd0 hp hd C _ _ hK
    · replace hK := mm_in hc hK
      refine mm_iload_n C (pc := 15) 2 dX7_readSum_15 rfl ?_
      refine mm_if_eq C (pc := 16) (tgt := 91) dX7_readSum_16 (by decide) (fun hc => ?_) (fun hc => ?_)
      · replace hK := mm_ip hc hK
        refine mm_sub C [2] rfl ?_
        exact w_X7_readSum_91 hd0 hp hd C _ _ hK
      · replace hK := mm_in hc hK
        refine mm_aload_n C (pc := 19) 0 dX7_readSum_19 rfl ?_
        replace hK := mm_bd hK; obtain ⟨v20, e20, hK⟩ := hK
        refine mm_getr C (pc := 20) (k := 0) inGX7 rfl (by decide) wd_351 dX7_readSum_20 e20 ?_
        refine mm_bipush C (pc := 23) (v := (43 : Int32)) dX7_readSum_23 (by decide) ?_
        replace hK := mm_b2s hK; obtain ⟨v25, h25, e25, hK⟩ := hK
        obtain ⟨o25, e25⟩ := cV_some e25
        refine mm_callV C (pc := 25) (d1 := 1) (As := [.int (43 : Int32)]) (st := []) (vk := (some (.int v25))) ((S_X9_isSign (by omega)) e25) tT_X9_isSign o25 (Or.inr ⟨_, rfl, rfl⟩) wd_1310 wd_1311 wd_1312 (by omega) (by decide) rfl (by simp [mm_crf, mm_cti, mm_ctl]) rfl dX7_readSum_25 ?_
        show V _ _ (.int v25 :: _) _
        refine mm_if_ne C (pc := 28) (tgt := 43) dX7_readSum_28 (by decide) (fun hc => ?_) (fun hc => ?_)
        · replace hK := mm_in hc hK
          refine mm_sub C [0, 1, 3] rfl ?_
          exact w_X7_readSum_43 hd0 hp hd C (fun z0 z1 z2 z3 z4 hK => ih z0 z1 z2 z3 z4 hK) _ _ _ _ hK
        · replace hK := mm_ip hc hK
          refine mm_aload_n C (pc := 31) 0 dX7_readSum_31 rfl ?_
          replace hK := mm_bd hK; obtain ⟨v32, e32, hK⟩ := hK
          refine mm_getr C (pc := 32) (k := 0) inGX7 rfl (by decide) wd_351 dX7_readSum_32 e32 ?_
          refine mm_bipush C (pc := 35) (v := (45 : Int32)) dX7_readSum_35 (by decide) ?_
          replace hK := mm_b2s hK; obtain ⟨v37, h37, e37, hK⟩ := hK
          obtain ⟨o37, e37⟩ := cV_some e37
          refine mm_callV C (pc := 37) (d1 := 1) (As := [.int (45 : Int32)]) (st := []) (vk := (some (.int v37))) ((S_X9_isSign (by omega)) e37) tT_X9_isSign o37 (Or.inr ⟨_, rfl, rfl⟩) wd_1310 wd_1311 wd_1312 (by omega) (by decide) rfl (by simp [mm_crf, mm_cti, mm_ctl]) rfl dX7_readSum_37 ?_
          show V _ _ (.int v37 :: _) _
          refine mm_if_eq C (pc := 40) (tgt := 91) dX7_readSum_40 (by decide) (fun hc => ?_) (fun hc => ?_)
          · replace hK := mm_ip hc hK
            refine mm_sub C [2] rfl ?_
            exact w_X7_readSum_91 hd0 hp hd C _ _ hK
          · replace hK := mm_in hc hK
            refine mm_sub C [0, 1, 3] rfl ?_
            exact w_X7_readSum_43 hd0 hp hd C (fun z0 z1 z2 z3 z4 hK => ih z0 z1 z2 z3 z4 hK) _ _ _ _ hK
def F_X7_readSum (p : PT_X7_readAtom) (a0 : Option Nat) (a1 : Int32) (h : MH) : Option (Int32 × MH) := mm_b2 (cV h a0 7 (p.2.2 a0 a1 h)) fun v2 h2 => F_X7_readSum_8 p mm_N a0 a1 v2 (0 : Int32) h2
set_option maxRecDepth 20000 in
set_option maxHeartbeats 4000000 in
theorem S_X7_readSum {d : Nat} {p : PT_X7_readAtom} {d0 : Nat} (hd0 : d0 + 1 ≤ d) (hp : PH_X7_readAtom p d0) (hd : 6 ≤ d) {a0 : Option Nat} {a1 : Int32} {h : MH} {r : Int32} {hz : MH} (hK : F_X7_readSum p a0 a1 h = some (r, hz)) : mm_M yX7_readSum cX7_readSum 5 (some .boolean) d [va_rf a0, .int a1] h (.inr (some (.int r))) hz := by
  refine mm_ofV (by decide +kernel) (by simp [lg_sl, mm_crf, mm_cti, mm_ctl]) (fun V C => ?_)
  rw [show lv_args 0 [va_rf a0, .int a1] = [(0, va_rf a0), (1, .int a1)] by simp [lv_args, mm_crf, mm_cti, mm_ctl]]
  unfold F_X7_readSum at hK
  refine mm_aload_n C (pc := 0) 0 dX7_readSum_0 rfl ?_
  refine mm_iload_n C (pc := 1) 1 dX7_readSum_1 rfl ?_
  replace hK := mm_b2s hK; obtain ⟨v2, h2, e2, hK⟩ := hK
  obtain ⟨o2, e2⟩ := cV_some e2
  refine mm_callV C (pc := 2) (d1 := d0) (As := [.int a1]) (st := []) (vk := (some (.int v2))) ((hp.2.2 _ (by omega) ) e2) tT_X7_readTerm o2 (Or.inr ⟨_, rfl, rfl⟩) wd_1361 wd_1363 wd_32 (by omega) (by decide) rfl (by simp [mm_crf, mm_cti, mm_ctl]) rfl dX7_readSum_2 ?_
  show V _ _ (.int v2 :: _) _
  refine mm_istore_n C (pc := 5) (i := 2) (lv' := [(2, .int v2), (0, va_rf a0), (1, .int a1)]) dX7_readSum_5 rfl (by decide) rfl ?_
  refine mm_iconst C (pc := 6) (v := (0 : Int32)) dX7_readSum_6 (by decide) ?_
  refine mm_istore_n C (pc := 7) (i := 3) (lv' := [(3, .int (0 : Int32)), (2, .int v2), (0, va_rf a0), (1, .int a1)]) dX7_readSum_7 rfl (by decide) rfl ?_
  refine mm_sub C [2, 3, 1, 0] rfl ?_
  exact w_X7_readSum_8 hd0 hp hd C _ _ _ _ _ _ hK
def F_X7_readTerm_57 (p : PT_X7_readAtom) (l2 : Int32) (h : MH) : Option (Int32 × MH) := rZ l2 h
set_option maxRecDepth 20000 in
set_option maxHeartbeats 4000000 in
theorem w_X7_readTerm_57 {d : Nat} {V : Nat → List (Nat × Value) → List Value → MH → Prop} {r : Int32} {hz : MH} {p : PT_X7_readAtom} {d0 : Nat} (hd0 : d0 + 1 ≤ d) (hp : PH_X7_readAtom p d0) (hd : 6 ≤ d) (C : mm_C d yX7_readTerm cX7_readTerm 4 (some .boolean) (.inr (some (.int r))) hz V) (l2 : Int32) (h : MH) (hK : F_X7_readTerm_57 p l2 h = some (r, hz)) : V 57 [(2, .int l2)] [] h := by
  unfold F_X7_readTerm_57 at hK
  refine mm_iload_n C (pc := 57) 0 dX7_readTerm_57 rfl ?_
  replace hK := rZ_some hK; obtain ⟨hv58, hK⟩ := hK
  cases hK
  exact mm_zret C (pc := 58) rfl (mm_nrZ hv58) dX7_readTerm_58 rfl rfl
def F_X7_readTerm_8 (p : PT_X7_readAtom) : Nat → Option Nat → Int32 → Int32 → Int32 → MH → Option (Int32 × MH)
  | 0 => fun _ _ _ _ _ => none
  | n + 1 => fun l0 l1 l2 l3 h => if (900 : Int32) ≤ l3 then (F_X7_readTerm_57 p l2 h) else (if l2 = 0 then (F_X7_readTerm_57 p l2 h) else ((gR h l0 7 0).bind fun v20 => mm_b2 (cV h v20 9 (F_X9_isSign v20 (42 : Int32) h)) fun v25 h25 => if v25 = 0 then (F_X7_readTerm_57 p l2 h25) else ((gR h25 l0 7 0).bind fun v32 => (cV h25 v32 9 (F_X9_advance v32 h25)).bind fun h35 => mm_b2 (cV h35 l0 7 (p.1 l0 l1 h35)) fun v40 h40 => (cV h40 l0 7 (F_X7_emit l0 (2002 : Int32) h40)).bind fun h48 => F_X7_readTerm_8 p n l0 l1 v40 (l3 + (1 : Int32)) h48)))
set_option maxRecDepth 20000 in
set_option maxHeartbeats 4000000 in
theorem w_X7_readTerm_8 {d : Nat} {V : Nat → List (Nat × Value) → List Value → MH → Prop} {r : Int32} {hz : MH} {p : PT_X7_readAtom} {d0 : Nat} (hd0 : d0 + 1 ≤ d) (hp : PH_X7_readAtom p d0) (hd : 6 ≤ d) (C : mm_C d yX7_readTerm cX7_readTerm 4 (some .boolean) (.inr (some (.int r))) hz V) : ∀ (n : Nat) (l0 : Option Nat) (l1 : Int32) (l2 : Int32) (l3 : Int32) (h : MH), F_X7_readTerm_8 p n l0 l1 l2 l3 h = some (r, hz) → V 8 [(0, va_rf l0), (1, .int l1), (2, .int l2), (3, .int l3)] [] h := by
  intro n
  induction n with
  | zero => intro l0 l1 l2 l3 h hK; cases hK
  | succ n ih =>
    intro l0 l1 l2 l3 h hK
    replace hK : (if (900 : Int32) ≤ l3 then (F_X7_readTerm_57 p l2 h) else (if l2 = 0 then (F_X7_readTerm_57 p l2 h) else ((gR h l0 7 0).bind fun v20 => mm_b2 (cV h v20 9 (F_X9_isSign v20 (42 : Int32) h)) fun v25 h25 => if v25 = 0 then (F_X7_readTerm_57 p l2 h25) else ((gR h25 l0 7 0).bind fun v32 => (cV h25 v32 9 (F_X9_advance v32 h25)).bind fun h35 => mm_b2 (cV h35 l0 7 (p.1 l0 l1 h35)) fun v40 h40 => (cV h40 l0 7 (F_X7_emit l0 (2002 : Int32) h40)).bind fun h48 => F_X7_readTerm_8 p n l0 l1 v40 (l3 + (1 : Int32)) h48)))) = some (r, hz) := hK
    refine mm_iload_n C (pc := 8) 3 dX7_readTerm_8 rfl ?_
    refine mm_sipush C (pc := 9) (v := (900 : Int32)) dX7_readTerm_9 (by decide) ?_
    refine mm_icmp_ge C (pc := 12) (tgt := 57) dX7_readTerm_12 (by decide) (fun hc => ?_) (fun hc => ?_)
    · replace hK := mm_ip hc hK
      refine mm_sub C [2] rfl ?_
      exact w_X7_readTerm_57 hd0 hp hd C _ _ hK
    · replace hK := mm_in hc hK
      refine mm_iload_n C (pc := 15) 2 dX7_readTerm_15 rfl ?_
      refine mm_if_eq C (pc := 16) (tgt := 57) dX7_readTerm_16 (by decide) (fun hc => ?_) (fun hc => ?_)
      · replace hK := mm_ip hc hK
        refine mm_sub C [2] rfl ?_
        exact w_X7_readTerm_57 hd0 hp hd C _ _ hK
      · replace hK := mm_in hc hK
        refine mm_aload_n C (pc := 19) 0 dX7_readTerm_19 rfl ?_
        replace hK := mm_bd hK; obtain ⟨v20, e20, hK⟩ := hK
        refine mm_getr C (pc := 20) (k := 0) inGX7 rfl (by decide) wd_351 dX7_readTerm_20 e20 ?_
        refine mm_bipush C (pc := 23) (v := (42 : Int32)) dX7_readTerm_23 (by decide) ?_
        replace hK := mm_b2s hK; obtain ⟨v25, h25, e25, hK⟩ := hK
        obtain ⟨o25, e25⟩ := cV_some e25
        refine mm_callV C (pc := 25) (d1 := 1) (As := [.int (42 : Int32)]) (st := []) (vk := (some (.int v25))) ((S_X9_isSign (by omega)) e25) tT_X9_isSign o25 (Or.inr ⟨_, rfl, rfl⟩) wd_1310 wd_1311 wd_1312 (by omega) (by decide) rfl (by simp [mm_crf, mm_cti, mm_ctl]) rfl dX7_readTerm_25 ?_
        show V _ _ (.int v25 :: _) _
        refine mm_if_eq C (pc := 28) (tgt := 57) dX7_readTerm_28 (by decide) (fun hc => ?_) (fun hc => ?_)
        · replace hK := mm_ip hc hK
          refine mm_sub C [2] rfl ?_
          exact w_X7_readTerm_57 hd0 hp hd C _ _ hK
        · replace hK := mm_in hc hK
          refine mm_aload_n C (pc := 31) 0 dX7_readTerm_31 rfl ?_
          replace hK := mm_bd hK; obtain ⟨v32, e32, hK⟩ := hK
          refine mm_getr C (pc := 32) (k := 0) inGX7 rfl (by decide) wd_351 dX7_readTerm_32 e32 ?_
          replace hK := mm_bd hK; obtain ⟨h35, e35, hK⟩ := hK
          obtain ⟨o35, e35⟩ := cV_some e35
          refine mm_callV C (pc := 35) (d1 := 5) (As := []) (st := []) (vk := none) ((S_X9_advance (by omega)) e35) tT_X9_advance o35 (Or.inr ⟨_, rfl, rfl⟩) wd_1289 wd_1185 wd_1186 (by omega) (by decide) rfl (by simp [mm_crf, mm_cti, mm_ctl]) rfl dX7_readTerm_35 ?_
          show V _ _ [] _
          refine mm_aload_n C (pc := 38) 0 dX7_readTerm_38 rfl ?_
          refine mm_iload_n C (pc := 39) 1 dX7_readTerm_39 rfl ?_
          replace hK := mm_b2s hK; obtain ⟨v40, h40, e40, hK⟩ := hK
          obtain ⟨o40, e40⟩ := cV_some e40
          refine mm_callV C (pc := 40) (d1 := d0) (As := [.int l1]) (st := []) (vk := (some (.int v40))) ((hp.1 _ (by omega) ) e40) tT_X7_readAtom o40 (Or.inr ⟨_, rfl, rfl⟩) wd_1365 wd_1367 wd_33 (by omega) (by decide) rfl (by simp [mm_crf, mm_cti, mm_ctl]) rfl dX7_readTerm_40 ?_
          show V _ _ (.int v40 :: _) _
          refine mm_istore_n C (pc := 43) (i := 2) (lv' := [(2, .int v40), (0, va_rf l0), (1, .int l1), (3, .int l3)]) dX7_readTerm_43 rfl (by decide) rfl ?_
          refine mm_aload_n C (pc := 44) 1 dX7_readTerm_44 rfl ?_
          refine mm_sipush C (pc := 45) (v := (2002 : Int32)) dX7_readTerm_45 (by decide) ?_
          replace hK := mm_bd hK; obtain ⟨h48, e48, hK⟩ := hK
          obtain ⟨o48, e48⟩ := cV_some e48
          refine mm_callV C (pc := 48) (d1 := 1) (As := [.int (2002 : Int32)]) (st := []) (vk := none) ((S_X7_emit (by omega)) e48) tT_X7_emit o48 (Or.inr ⟨_, rfl, rfl⟩) wd_1353 wd_1355 wd_30 (by omega) (by decide) rfl (by simp [mm_crf, mm_cti, mm_ctl]) rfl dX7_readTerm_48 ?_
          show V _ _ [] _
          refine mm_iinc C (pc := 51) (v := (l3 + (1 : Int32))) (lv' := [(3, .int (l3 + (1 : Int32))), (2, .int v40), (0, va_rf l0), (1, .int l1)]) 3 dX7_readTerm_51 rfl rfl (by decide) rfl ?_
          refine mm_goto C (pc := 54) (tgt := 8) dX7_readTerm_54 (by decide) ?_
          refine mm_sub C [2, 3, 1, 0] rfl ?_
          exact ih _ _ _ _ _ hK
def F_X7_readTerm (p : PT_X7_readAtom) (a0 : Option Nat) (a1 : Int32) (h : MH) : Option (Int32 × MH) := mm_b2 (cV h a0 7 (p.1 a0 a1 h)) fun v2 h2 => F_X7_readTerm_8 p mm_N a0 a1 v2 (0 : Int32) h2
set_option maxRecDepth 20000 in
set_option maxHeartbeats 4000000 in
theorem S_X7_readTerm {d : Nat} {p : PT_X7_readAtom} {d0 : Nat} (hd0 : d0 + 1 ≤ d) (hp : PH_X7_readAtom p d0) (hd : 6 ≤ d) {a0 : Option Nat} {a1 : Int32} {h : MH} {r : Int32} {hz : MH} (hK : F_X7_readTerm p a0 a1 h = some (r, hz)) : mm_M yX7_readTerm cX7_readTerm 4 (some .boolean) d [va_rf a0, .int a1] h (.inr (some (.int r))) hz := by
  refine mm_ofV (by decide +kernel) (by simp [lg_sl, mm_crf, mm_cti, mm_ctl]) (fun V C => ?_)
  rw [show lv_args 0 [va_rf a0, .int a1] = [(0, va_rf a0), (1, .int a1)] by simp [lv_args, mm_crf, mm_cti, mm_ctl]]
  unfold F_X7_readTerm at hK
  refine mm_aload_n C (pc := 0) 0 dX7_readTerm_0 rfl ?_
  refine mm_iload_n C (pc := 1) 1 dX7_readTerm_1 rfl ?_
  replace hK := mm_b2s hK; obtain ⟨v2, h2, e2, hK⟩ := hK
  obtain ⟨o2, e2⟩ := cV_some e2
  refine mm_callV C (pc := 2) (d1 := d0) (As := [.int a1]) (st := []) (vk := (some (.int v2))) ((hp.1 _ (by omega) ) e2) tT_X7_readAtom o2 (Or.inr ⟨_, rfl, rfl⟩) wd_1365 wd_1367 wd_33 (by omega) (by decide) rfl (by simp [mm_crf, mm_cti, mm_ctl]) rfl dX7_readTerm_2 ?_
  show V _ _ (.int v2 :: _) _
  refine mm_istore_n C (pc := 5) (i := 2) (lv' := [(2, .int v2), (0, va_rf a0), (1, .int a1)]) dX7_readTerm_5 rfl (by decide) rfl ?_
  refine mm_iconst C (pc := 6) (v := (0 : Int32)) dX7_readTerm_6 (by decide) ?_
  refine mm_istore_n C (pc := 7) (i := 3) (lv' := [(3, .int (0 : Int32)), (2, .int v2), (0, va_rf a0), (1, .int a1)]) dX7_readTerm_7 rfl (by decide) rfl ?_
  refine mm_sub C [2, 3, 1, 0] rfl ?_
  exact w_X7_readTerm_8 hd0 hp hd C _ _ _ _ _ _ hK
def G_X7_readAtom : Nat → PT_X7_readAtom
  | 0 => ((fun _ _ _ => none), (fun _ _ _ => none), (fun _ _ _ => none))
  | n + 1 => ((fun a0 a1 h => F_X7_readAtom (G_X7_readAtom n) a0 a1 h), (fun a0 a1 h => F_X7_readSum (G_X7_readAtom n) a0 a1 h), (fun a0 a1 h => F_X7_readTerm (G_X7_readAtom n) a0 a1 h))
theorem S_G_X7_readAtom : ∀ n : Nat, PH_X7_readAtom (G_X7_readAtom n) (7 + n) := by
  intro n
  induction n with
  | zero => exact ⟨fun d hd _ _ _ _ _ hK => (by cases hK), fun d hd _ _ _ _ _ hK => (by cases hK), fun d hd _ _ _ _ _ hK => (by cases hK)⟩
  | succ n ih => exact ⟨fun d hd _ _ _ _ _ hK => S_X7_readAtom (p := G_X7_readAtom n) (d0 := 7 + n) (by omega) ih (by omega) hK, fun d hd _ _ _ _ _ hK => S_X7_readSum (p := G_X7_readAtom n) (d0 := 7 + n) (by omega) ih (by omega) hK, fun d hd _ _ _ _ _ hK => S_X7_readTerm (p := G_X7_readAtom n) (d0 := 7 + n) (by omega) ih (by omega) hK⟩
def F_X7_relation_51 (s0 : Int32) (h : MH) : Option (Int32 × MH) := some (s0, h)
set_option maxRecDepth 20000 in
set_option maxHeartbeats 4000000 in
theorem w_X7_relation_51 {d : Nat} {V : Nat → List (Nat × Value) → List Value → MH → Prop} {r : Int32} {hz : MH} (hd : 2 ≤ d) (C : mm_C d yX7_relation cX7_relation 1 (some .int) (.inr (some (.int r))) hz V) (s0 : Int32) (h : MH) (hK : F_X7_relation_51 s0 h = some (r, hz)) : V 51 [] [.int s0] h := by
  unfold F_X7_relation_51 at hK
  cases hK
  exact mm_iret C (pc := 51) rfl dX7_relation_51 rfl rfl
def F_X7_relation (a0 : Option Nat) (h : MH) : Option (Int32 × MH) := (gR h a0 7 0).bind fun v1 => mm_b2 (cV h v1 9 (F_X9_isSign v1 (61 : Int32) h)) fun v6 h6 => if v6 = 0 then ((gR h6 a0 7 0).bind fun v17 => mm_b2 (cV h6 v17 9 (F_X9_isSign v17 (60 : Int32) h6)) fun v22 h22 => if v22 = 0 then ((gR h22 a0 7 0).bind fun v33 => mm_b2 (cV h22 v33 9 (F_X9_isSign v33 (62 : Int32) h22)) fun v38 h38 => if v38 = 0 then (F_X7_relation_51 ((-1) : Int32) h38) else (F_X7_relation_51 (2005 : Int32) h38)) else (some ((2004 : Int32), h22))) else (some ((2003 : Int32), h6))
set_option maxRecDepth 20000 in
set_option maxHeartbeats 4000000 in
theorem S_X7_relation {d : Nat} (hd : 2 ≤ d) {a0 : Option Nat} {h : MH} {r : Int32} {hz : MH} (hK : F_X7_relation a0 h = some (r, hz)) : mm_M yX7_relation cX7_relation 1 (some .int) d [va_rf a0] h (.inr (some (.int r))) hz := by
  refine mm_ofV (by decide +kernel) (by simp [lg_sl, mm_crf, mm_cti, mm_ctl]) (fun V C => ?_)
  rw [show lv_args 0 [va_rf a0] = [(0, va_rf a0)] by simp [lv_args, mm_crf, mm_cti, mm_ctl]]
  unfold F_X7_relation at hK
  refine mm_aload_n C (pc := 0) 0 dX7_relation_0 rfl ?_
  replace hK := mm_bd hK; obtain ⟨v1, e1, hK⟩ := hK
  refine mm_getr C (pc := 1) (k := 0) inGX7 rfl (by decide) wd_351 dX7_relation_1 e1 ?_
  refine mm_bipush C (pc := 4) (v := (61 : Int32)) dX7_relation_4 (by decide) ?_
  replace hK := mm_b2s hK; obtain ⟨v6, h6, e6, hK⟩ := hK
  obtain ⟨o6, e6⟩ := cV_some e6
  refine mm_callV C (pc := 6) (d1 := 1) (As := [.int (61 : Int32)]) (st := []) (vk := (some (.int v6))) ((S_X9_isSign (by omega)) e6) tT_X9_isSign o6 (Or.inr ⟨_, rfl, rfl⟩) wd_1310 wd_1311 wd_1312 (by omega) (by decide) rfl (by simp [mm_crf, mm_cti, mm_ctl]) rfl dX7_relation_6 ?_
  show V _ _ (.int v6 :: _) _
  refine mm_if_eq C (pc := 9) (tgt := 16) dX7_relation_9 (by decide) (fun hc => ?_) (fun hc => ?_)
  · replace hK := mm_ip hc hK
    refine mm_aload_n C (pc := 16) 0 dX7_relation_16 rfl ?_
    replace hK := mm_bd hK; obtain ⟨v17, e17, hK⟩ := hK
    refine mm_getr C (pc := 17) (k := 0) inGX7 rfl (by decide) wd_351 dX7_relation_17 e17 ?_
    refine mm_bipush C (pc := 20) (v := (60 : Int32)) dX7_relation_20 (by decide) ?_
    replace hK := mm_b2s hK; obtain ⟨v22, h22, e22, hK⟩ := hK
    obtain ⟨o22, e22⟩ := cV_some e22
    refine mm_callV C (pc := 22) (d1 := 1) (As := [.int (60 : Int32)]) (st := []) (vk := (some (.int v22))) ((S_X9_isSign (by omega)) e22) tT_X9_isSign o22 (Or.inr ⟨_, rfl, rfl⟩) wd_1310 wd_1311 wd_1312 (by omega) (by decide) rfl (by simp [mm_crf, mm_cti, mm_ctl]) rfl dX7_relation_22 ?_
    show V _ _ (.int v22 :: _) _
    refine mm_if_eq C (pc := 25) (tgt := 32) dX7_relation_25 (by decide) (fun hc => ?_) (fun hc => ?_)
    · replace hK := mm_ip hc hK
      refine mm_aload_n C (pc := 32) 0 dX7_relation_32 rfl ?_
      replace hK := mm_bd hK; obtain ⟨v33, e33, hK⟩ := hK
      refine mm_getr C (pc := 33) (k := 0) inGX7 rfl (by decide) wd_351 dX7_relation_33 e33 ?_
      refine mm_bipush C (pc := 36) (v := (62 : Int32)) dX7_relation_36 (by decide) ?_
      replace hK := mm_b2s hK; obtain ⟨v38, h38, e38, hK⟩ := hK
      obtain ⟨o38, e38⟩ := cV_some e38
      refine mm_callV C (pc := 38) (d1 := 1) (As := [.int (62 : Int32)]) (st := []) (vk := (some (.int v38))) ((S_X9_isSign (by omega)) e38) tT_X9_isSign o38 (Or.inr ⟨_, rfl, rfl⟩) wd_1310 wd_1311 wd_1312 (by omega) (by decide) rfl (by simp [mm_crf, mm_cti, mm_ctl]) rfl dX7_relation_38 ?_
      show V _ _ (.int v38 :: _) _
      refine mm_if_eq C (pc := 41) (tgt := 50) dX7_relation_41 (by decide) (fun hc => ?_) (fun hc => ?_)
      · replace hK := mm_ip hc hK
        refine mm_iconst C (pc := 50) (v := ((-1) : Int32)) dX7_relation_50 (by decide) ?_
        refine mm_sub C [] rfl ?_
        exact w_X7_relation_51 hd C _ _ hK
      · replace hK := mm_in hc hK
        refine mm_sipush C (pc := 44) (v := (2005 : Int32)) dX7_relation_44 (by decide) ?_
        refine mm_goto C (pc := 47) (tgt := 51) dX7_relation_47 (by decide) ?_
        refine mm_sub C [] rfl ?_
        exact w_X7_relation_51 hd C _ _ hK
    · replace hK := mm_in hc hK
      refine mm_sipush C (pc := 28) (v := (2004 : Int32)) dX7_relation_28 (by decide) ?_
      cases hK
      exact mm_iret C (pc := 31) rfl dX7_relation_31 rfl rfl
  · replace hK := mm_in hc hK
    refine mm_sipush C (pc := 12) (v := (2003 : Int32)) dX7_relation_12 (by decide) ?_
    cases hK
    exact mm_iret C (pc := 15) rfl dX7_relation_15 rfl rfl
