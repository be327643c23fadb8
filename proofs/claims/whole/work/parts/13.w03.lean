def F_X0_whyNotRing_32 (h : MH) : Option (Int32 × MH) := some ((1 : Int32), h)
set_option maxRecDepth 20000 in
set_option maxHeartbeats 4000000 in
theorem w_X0_whyNotRing_32 {d : Nat} {V : Nat → List (Nat × Value) → List Value → MH → Prop} {r : Int32} {hz : MH} (hd : 2 ≤ d) (C : mm_C d yX0_whyNotRing cX0_whyNotRing 4 (some .int) (.inr (some (.int r))) hz V) (h : MH) (hK : F_X0_whyNotRing_32  h = some (r, hz)) : V 32 [] [] h := by
  unfold F_X0_whyNotRing_32 at hK
  refine mm_iconst C (pc := 32) (v := (1 : Int32)) dX0_whyNotRing_32 (by decide) ?_
  cases hK
  exact mm_iret C (pc := 33) rfl dX0_whyNotRing_33 rfl rfl
def F_X0_whyNotRing_48 (s0 : Int32) (h : MH) : Option (Int32 × MH) := some (s0, h)
set_option maxRecDepth 20000 in
set_option maxHeartbeats 4000000 in
theorem w_X0_whyNotRing_48 {d : Nat} {V : Nat → List (Nat × Value) → List Value → MH → Prop} {r : Int32} {hz : MH} (hd : 2 ≤ d) (C : mm_C d yX0_whyNotRing cX0_whyNotRing 4 (some .int) (.inr (some (.int r))) hz V) (s0 : Int32) (h : MH) (hK : F_X0_whyNotRing_48 s0 h = some (r, hz)) : V 48 [] [.int s0] h := by
  unfold F_X0_whyNotRing_48 at hK
  cases hK
  exact mm_iret C (pc := 48) rfl dX0_whyNotRing_48 rfl rfl
def F_X0_whyNotRing (a0 : Option Nat) (a1 : Int32) (a2 : Int32) (a3 : Int32) (h : MH) : Option (Int32 × MH) := mm_b2 (cV h a0 0 (F_X0_isLine a0 a1 h)) fun v2 h2 => if v2 = 0 then (F_X0_whyNotRing_32 h2) else (mm_b2 (cV h2 a0 0 (F_X0_isLine a0 a2 h2)) fun v10 h10 => if v10 = 0 then (F_X0_whyNotRing_32 h10) else (if a1 = a2 then (F_X0_whyNotRing_32 h10) else (if a3 < (1 : Int32) then (F_X0_whyNotRing_32 h10) else (if a3 ≤ (99 : Int32) then (mm_b2 (cV h10 a0 0 (F_X0_calls a0 h10)) fun v35 h35 => if v35 < (10 : Int32) then (F_X0_whyNotRing_48 (0 : Int32) h35) else (F_X0_whyNotRing_48 (2 : Int32) h35)) else (F_X0_whyNotRing_32 h10)))))
set_option maxRecDepth 20000 in
set_option maxHeartbeats 4000000 in
theorem S_X0_whyNotRing {d : Nat} (hd : 2 ≤ d) {a0 : Option Nat} {a1 : Int32} {a2 : Int32} {a3 : Int32} {h : MH} {r : Int32} {hz : MH} (hK : F_X0_whyNotRing a0 a1 a2 a3 h = some (r, hz)) : mm_M yX0_whyNotRing cX0_whyNotRing 4 (some .int) d [va_rf a0, .int a1, .int a2, .int a3] h (.inr (some (.int r))) hz := by
  refine mm_ofV (by decide +kernel) (by simp [lg_sl, mm_crf, mm_cti, mm_ctl]) (fun V C => ?_)
  rw [show lv_args 0 [va_rf a0, .int a1, .int a2, .int a3] = [(0, va_rf a0), (1, .int a1), (2, .int a2), (3, .int a3)] by simp [lv_args, mm_crf, mm_cti, mm_ctl]]
  unfold F_X0_whyNotRing at hK
  refine mm_aload_n C (pc := 0) 0 dX0_whyNotRing_0 rfl ?_
  refine mm_iload_n C (pc := 1) 1 dX0_whyNotRing_1 rfl ?_
  replace hK := mm_b2s hK; obtain ⟨v2, h2, e2, hK⟩ := hK
  obtain ⟨o2, e2⟩ := cV_some e2
  refine mm_callV C (pc := 2) (d1 := 1) (As := [.int a1]) (st := []) (vk := (some (.int v2))) ((S_X0_isLine (by omega)) e2) tT_X0_isLine o2 (Or.inr ⟨_, rfl, rfl⟩) wd_914 wd_916 wd_4 (by omega) (by decide) rfl (by simp [mm_crf, mm_cti, mm_ctl]) rfl dX0_whyNotRing_2 ?_
  show V _ _ (.int v2 :: _) _
  refine mm_if_eq C (pc := 5) (tgt := 32) dX0_whyNotRing_5 (by decide) (fun hc => ?_) (fun hc => ?_)
  · replace hK := mm_ip hc hK
    refine mm_sub C [] rfl ?_
    exact w_X0_whyNotRing_32 hd C _ hK
  · replace hK := mm_in hc hK
    refine mm_aload_n C (pc := 8) 0 dX0_whyNotRing_8 rfl ?_
    refine mm_iload_n C (pc := 9) 2 dX0_whyNotRing_9 rfl ?_
    replace hK := mm_b2s hK; obtain ⟨v10, h10, e10, hK⟩ := hK
    obtain ⟨o10, e10⟩ := cV_some e10
    refine mm_callV C (pc := 10) (d1 := 1) (As := [.int a2]) (st := []) (vk := (some (.int v10))) ((S_X0_isLine (by omega)) e10) tT_X0_isLine o10 (Or.inr ⟨_, rfl, rfl⟩) wd_914 wd_916 wd_4 (by omega) (by decide) rfl (by simp [mm_crf, mm_cti, mm_ctl]) rfl dX0_whyNotRing_10 ?_
    show V _ _ (.int v10 :: _) _
    refine mm_if_eq C (pc := 13) (tgt := 32) dX0_whyNotRing_13 (by decide) (fun hc => ?_) (fun hc => ?_)
    · replace hK := mm_ip hc hK
      refine mm_sub C [] rfl ?_
      exact w_X0_whyNotRing_32 hd C _ hK
    · replace hK := mm_in hc hK
      refine mm_iload_n C (pc := 16) 1 dX0_whyNotRing_16 rfl ?_
      refine mm_iload_n C (pc := 17) 2 dX0_whyNotRing_17 rfl ?_
      refine mm_icmp_eq C (pc := 18) (tgt := 32) dX0_whyNotRing_18 (by decide) (fun hc => ?_) (fun hc => ?_)
      · replace hK := mm_ip hc hK
        refine mm_sub C [] rfl ?_
        exact w_X0_whyNotRing_32 hd C _ hK
      · replace hK := mm_in hc hK
        refine mm_iload_n C (pc := 21) 3 dX0_whyNotRing_21 rfl ?_
        refine mm_iconst C (pc := 22) (v := (1 : Int32)) dX0_whyNotRing_22 (by decide) ?_
        refine mm_icmp_lt C (pc := 23) (tgt := 32) dX0_whyNotRing_23 (by decide) (fun hc => ?_) (fun hc => ?_)
        · replace hK := mm_ip hc hK
          refine mm_sub C [] rfl ?_
          exact w_X0_whyNotRing_32 hd C _ hK
        · replace hK := mm_in hc hK
          refine mm_iload_n C (pc := 26) 3 dX0_whyNotRing_26 rfl ?_
          refine mm_bipush C (pc := 27) (v := (99 : Int32)) dX0_whyNotRing_27 (by decide) ?_
          refine mm_icmp_le C (pc := 29) (tgt := 34) dX0_whyNotRing_29 (by decide) (fun hc => ?_) (fun hc => ?_)
          · replace hK := mm_ip hc hK
            refine mm_aload_n C (pc := 34) 0 dX0_whyNotRing_34 rfl ?_
            replace hK := mm_b2s hK; obtain ⟨v35, h35, e35, hK⟩ := hK
            obtain ⟨o35, e35⟩ := cV_some e35
            refine mm_callV C (pc := 35) (d1 := 1) (As := []) (st := []) (vk := (some (.int v35))) ((S_X0_calls (by omega)) e35) tT_X0_calls o35 (Or.inr ⟨_, rfl, rfl⟩) wd_918 wd_919 wd_920 (by omega) (by decide) rfl (by simp [mm_crf, mm_cti, mm_ctl]) rfl dX0_whyNotRing_35 ?_
            show V _ _ (.int v35 :: _) _
            refine mm_bipush C (pc := 38) (v := (10 : Int32)) dX0_whyNotRing_38 (by decide) ?_
            refine mm_icmp_lt C (pc := 40) (tgt := 47) dX0_whyNotRing_40 (by decide) (fun hc => ?_) (fun hc => ?_)
            · replace hK := mm_ip hc hK
              refine mm_iconst C (pc := 47) (v := (0 : Int32)) dX0_whyNotRing_47 (by decide) ?_
              refine mm_sub C [] rfl ?_
              exact w_X0_whyNotRing_48 hd C _ _ hK
            · replace hK := mm_in hc hK
              refine mm_iconst C (pc := 43) (v := (2 : Int32)) dX0_whyNotRing_43 (by decide) ?_
              refine mm_goto C (pc := 44) (tgt := 48) dX0_whyNotRing_44 (by decide) ?_
              refine mm_sub C [] rfl ?_
              exact w_X0_whyNotRing_48 hd C _ _ hK
          · replace hK := mm_in hc hK
            refine mm_sub C [] rfl ?_
            exact w_X0_whyNotRing_32 hd C _ hK
theorem wd_930 : Cond.methodLink RX0 52 arraycopyName ∈ lw_good := mm_wd 930 (by decide +kernel) (by decide +kernel)
def F_X0_saveTo_25 (h : MH) : Option MH := some h
set_option maxRecDepth 20000 in
set_option maxHeartbeats 4000000 in
theorem w_X0_saveTo_25 {d : Nat} {V : Nat → List (Nat × Value) → List Value → MH → Prop} {hz : MH} (hd : 1 ≤ d) (C : mm_C d yX0_saveTo cX0_saveTo 3 none (.inr none) hz V) (h : MH) (hK : F_X0_saveTo_25  h = some hz) : V 25 [] [] h := by
  unfold F_X0_saveTo_25 at hK
  cases hK
  exact mm_vret C (pc := 25) rfl dX0_saveTo_25 rfl rfl
def F_X0_saveTo (a0 : Option Nat) (a1 : Option Nat) (a2 : Int32) (h : MH) : Option MH := if a2 < 0 then (F_X0_saveTo_25 h) else ((aNt h a1 0).bind fun v6 => if (v6 - (81 : Int32)) < a2 then (F_X0_saveTo_25 h) else ((gR h a0 0 0).bind fun v14 => (cpI h v14 (0 : Int32) a1 a2 (81 : Int32)).bind fun h22 => F_X0_saveTo_25 h22))
set_option maxRecDepth 20000 in
set_option maxHeartbeats 4000000 in
theorem S_X0_saveTo {d : Nat} (hd : 1 ≤ d) {a0 : Option Nat} {a1 : Option Nat} {a2 : Int32} {h : MH} {hz : MH} (hK : F_X0_saveTo a0 a1 a2 h = some hz) : mm_M yX0_saveTo cX0_saveTo 3 none d [va_rf a0, va_rf a1, .int a2] h (.inr none) hz := by
  refine mm_ofV (by decide +kernel) (by simp [lg_sl, mm_crf, mm_cti, mm_ctl]) (fun V C => ?_)
  rw [show lv_args 0 [va_rf a0, va_rf a1, .int a2] = [(0, va_rf a0), (1, va_rf a1), (2, .int a2)] by simp [lv_args, mm_crf, mm_cti, mm_ctl]]
  unfold F_X0_saveTo at hK
  refine mm_iload_n C (pc := 0) 2 dX0_saveTo_0 rfl ?_
  refine mm_if_lt C (pc := 1) (tgt := 25) dX0_saveTo_1 (by decide) (fun hc => ?_) (fun hc => ?_)
  · replace hK := mm_ip hc hK
    refine mm_sub C [] rfl ?_
    exact w_X0_saveTo_25 hd C _ hK
  · replace hK := mm_in hc hK
    refine mm_iload_n C (pc := 4) 2 dX0_saveTo_4 rfl ?_
    refine mm_aload_n C (pc := 5) 1 dX0_saveTo_5 rfl ?_
    replace hK := mm_bd hK; obtain ⟨v6, e6, hK⟩ := hK
    refine mm_alenI C (pc := 6) dX0_saveTo_6 e6 ?_
    refine mm_bipush C (pc := 7) (v := (81 : Int32)) dX0_saveTo_7 (by decide) ?_
    refine mm_isub C (pc := 9) dX0_saveTo_9 ?_
    refine mm_icmp_gt C (pc := 10) (tgt := 25) dX0_saveTo_10 (by decide) (fun hc => ?_) (fun hc => ?_)
    · replace hK := mm_ip hc hK
      refine mm_sub C [] rfl ?_
      exact w_X0_saveTo_25 hd C _ hK
    · replace hK := mm_in hc hK
      refine mm_aload_n C (pc := 13) 0 dX0_saveTo_13 rfl ?_
      replace hK := mm_bd hK; obtain ⟨v14, e14, hK⟩ := hK
      refine mm_getr C (pc := 14) (k := 0) inGX0 rfl (by decide) wd_816 dX0_saveTo_14 e14 ?_
      refine mm_iconst C (pc := 17) (v := (0 : Int32)) dX0_saveTo_17 (by decide) ?_
      refine mm_aload_n C (pc := 18) 1 dX0_saveTo_18 rfl ?_
      refine mm_iload_n C (pc := 19) 2 dX0_saveTo_19 rfl ?_
      refine mm_bipush C (pc := 20) (v := (81 : Int32)) dX0_saveTo_20 (by decide) ?_
      replace hK := mm_bd hK; obtain ⟨h22, e22, hK⟩ := hK
      refine mm_copy C (pc := 22) wd_930 wd_554 wd_553 wd_166 (by omega) (by simp [mm_crf, mm_cti, mm_ctl]) dX0_saveTo_22 e22 ?_
      refine mm_sub C [] rfl ?_
      exact w_X0_saveTo_25 hd C _ hK
theorem wd_929 : Cond.code yX0_saveTo cX0_saveTo 3 none ∈ lw_good := mm_wd 929 (by decide +kernel) (by decide +kernel)
theorem tT_X0_saveTo : mm_T yX0_saveTo cX0_saveTo 3 none 2 := ⟨wd_929, wd_150, by decide +kernel, by decide +kernel, by decide +kernel, by decide +kernel⟩
theorem wd_926 : Cond.methodLink RX3 24 yX0_saveTo ∈ lw_good := mm_wd 926 (by decide +kernel) (by decide +kernel)
theorem wd_927 : Cond.instanceMethod yX0_saveTo ∈ lw_good := mm_wd 927 (by decide +kernel) (by decide +kernel)
theorem wd_928 : Cond.selects RX0 yX0_saveTo yX0_saveTo ∈ lw_good := mm_wd 928 (by decide +kernel) (by decide +kernel)
theorem wd_931 : Cond.methodLink RX3 28 yJ9_min_7cf53 ∈ lw_good := mm_wd 931 (by decide +kernel) (by decide +kernel)
def F_X3_keep (a0 : Option Nat) (a1 : Option Nat) (h : MH) : Option MH := (gR h a0 3 0).bind fun v2 => (gI h a0 3 1).bind fun v6 => (cV h a1 0 (F_X0_saveTo a1 v2 (v6 * (81 : Int32)) h)).bind fun h12 => (gI h12 a0 3 1).bind fun v17 => (pI h12 a0 3 1 ((v17 + (1 : Int32)) - (v17 + (1 : Int32)) / (10 : Int32) * (10 : Int32))).bind fun h25 => (gI h25 a0 3 2).bind fun v30 => (pI h25 a0 3 2 (mnI (v30 + (1 : Int32)) (10 : Int32))).bind fun h40 => some h40
set_option maxRecDepth 20000 in
set_option maxHeartbeats 4000000 in
theorem S_X3_keep {d : Nat} (hd : 2 ≤ d) {a0 : Option Nat} {a1 : Option Nat} {h : MH} {hz : MH} (hK : F_X3_keep a0 a1 h = some hz) : mm_M yX3_keep cX3_keep 2 none d [va_rf a0, va_rf a1] h (.inr none) hz := by
  refine mm_ofV (by decide +kernel) (by simp [lg_sl, mm_crf, mm_cti, mm_ctl]) (fun V C => ?_)
  rw [show lv_args 0 [va_rf a0, va_rf a1] = [(0, va_rf a0), (1, va_rf a1)] by simp [lv_args, mm_crf, mm_cti, mm_ctl]]
  unfold F_X3_keep at hK
  refine mm_aload_n C (pc := 0) 1 dX3_keep_0 rfl ?_
  refine mm_aload_n C (pc := 1) 0 dX3_keep_1 rfl ?_
  replace hK := mm_bd hK; obtain ⟨v2, e2, hK⟩ := hK
  refine mm_getr C (pc := 2) (k := 0) inGX3 rfl (by decide) wd_189 dX3_keep_2 e2 ?_
  refine mm_aload_n C (pc := 5) 0 dX3_keep_5 rfl ?_
  replace hK := mm_bd hK; obtain ⟨v6, e6, hK⟩ := hK
  refine mm_geti C (pc := 6) (k := 1) inGX3 rfl (by decide) wd_190 dX3_keep_6 e6 ?_
  refine mm_bipush C (pc := 9) (v := (81 : Int32)) dX3_keep_9 (by decide) ?_
  refine mm_imul C (pc := 11) dX3_keep_11 ?_
  replace hK := mm_bd hK; obtain ⟨h12, e12, hK⟩ := hK
  obtain ⟨o12, e12⟩ := cV_some e12
  refine mm_callV C (pc := 12) (d1 := 1) (As := [va_rf v2, .int (v6 * (81 : Int32))]) (st := []) (vk := none) ((S_X0_saveTo (by omega)) e12) tT_X0_saveTo o12 (Or.inr ⟨_, rfl, rfl⟩) wd_926 wd_927 wd_928 (by omega) (by decide) rfl (by simp [mm_crf, mm_cti, mm_ctl]) rfl dX3_keep_12 ?_
  show V _ _ [] _
  refine mm_aload_n C (pc := 15) 0 dX3_keep_15 rfl ?_
  refine mm_aload_n C (pc := 16) 0 dX3_keep_16 rfl ?_
  replace hK := mm_bd hK; obtain ⟨v17, e17, hK⟩ := hK
  refine mm_geti C (pc := 17) (k := 1) inGX3 rfl (by decide) wd_190 dX3_keep_17 e17 ?_
  refine mm_iconst C (pc := 20) (v := (1 : Int32)) dX3_keep_20 (by decide) ?_
  refine mm_iadd C (pc := 21) dX3_keep_21 ?_
  refine mm_bipush C (pc := 22) (v := (10 : Int32)) dX3_keep_22 (by decide) ?_
  refine mm_irem C (pc := 24) dX3_keep_24 (by decide) ?_
  replace hK := mm_bd hK; obtain ⟨h25, e25, hK⟩ := hK
  refine mm_puti C (pc := 25) (k := 1) false (fun z => by cases z) inGX3 tyX3 tyX3_ok nmX3 rfl (by decide) wd_190 rfl rfl dX3_keep_25 e25 ?_
  refine mm_aload_n C (pc := 28) 0 dX3_keep_28 rfl ?_
  refine mm_aload_n C (pc := 29) 0 dX3_keep_29 rfl ?_
  replace hK := mm_bd hK; obtain ⟨v30, e30, hK⟩ := hK
  refine mm_geti C (pc := 30) (k := 2) inGX3 rfl (by decide) wd_191 dX3_keep_30 e30 ?_
  refine mm_iconst C (pc := 33) (v := (1 : Int32)) dX3_keep_33 (by decide) ?_
  refine mm_iadd C (pc := 34) dX3_keep_34 ?_
  refine mm_bipush C (pc := 35) (v := (10 : Int32)) dX3_keep_35 (by decide) ?_
  refine mm_mmin C (pc := 37) wd_931 wd_409 wd_152 wd_410 (by omega) (by simp [mm_crf, mm_cti, mm_ctl]) dX3_keep_37 ?_
  replace hK := mm_bd hK; obtain ⟨h40, e40, hK⟩ := hK
  refine mm_puti C (pc := 40) (k := 2) false (fun z => by cases z) inGX3 tyX3 tyX3_ok nmX3 rfl (by decide) wd_191 rfl rfl dX3_keep_40 e40 ?_
  cases hK
  exact mm_vret C (pc := 43) rfl dX3_keep_43 rfl rfl
def F_X0_ring (a0 : Option Nat) (a1 : Int32) (a2 : Int32) (a3 : Int32) (h : MH) : Option (Int32 × MH) := mm_b2 (cV h a0 0 (F_X0_minute a0 h)) fun v4 h4 => mm_b2 (cV h4 a0 0 (F_X0_addCall a0 a1 a2 v4 a3 h4)) fun v8 h8 => some (v8, h8)
set_option maxRecDepth 20000 in
set_option maxHeartbeats 4000000 in
theorem S_X0_ring {d : Nat} (hd : 3 ≤ d) {a0 : Option Nat} {a1 : Int32} {a2 : Int32} {a3 : Int32} {h : MH} {r : Int32} {hz : MH} (hK : F_X0_ring a0 a1 a2 a3 h = some (r, hz)) : mm_M yX0_ring cX0_ring 4 (some .int) d [va_rf a0, .int a1, .int a2, .int a3] h (.inr (some (.int r))) hz := by
  refine mm_ofV (by decide +kernel) (by simp [lg_sl, mm_crf, mm_cti, mm_ctl]) (fun V C => ?_)
  rw [show lv_args 0 [va_rf a0, .int a1, .int a2, .int a3] = [(0, va_rf a0), (1, .int a1), (2, .int a2), (3, .int a3)] by simp [lv_args, mm_crf, mm_cti, mm_ctl]]
  unfold F_X0_ring at hK
  refine mm_aload_n C (pc := 0) 0 dX0_ring_0 rfl ?_
  refine mm_iload_n C (pc := 1) 1 dX0_ring_1 rfl ?_
  refine mm_iload_n C (pc := 2) 2 dX0_ring_2 rfl ?_
  refine mm_aload_n C (pc := 3) 0 dX0_ring_3 rfl ?_
  replace hK := mm_b2s hK; obtain ⟨v4, h4, e4, hK⟩ := hK
  obtain ⟨o4, e4⟩ := cV_some e4
  refine mm_callV C (pc := 4) (d1 := 1) (As := []) (st := [.int a2, .int a1, va_rf a0]) (vk := (some (.int v4))) ((S_X0_minute (by omega)) e4) tT_X0_minute o4 (Or.inr ⟨_, rfl, rfl⟩) wd_936 wd_937 wd_938 (by omega) (by decide) rfl (by simp [mm_crf, mm_cti, mm_ctl]) rfl dX0_ring_4 ?_
  show V _ _ (.int v4 :: _) _
  refine mm_iload_n C (pc := 7) 3 dX0_ring_7 rfl ?_
  replace hK := mm_b2s hK; obtain ⟨v8, h8, e8, hK⟩ := hK
  obtain ⟨o8, e8⟩ := cV_some e8
  refine mm_callV C (pc := 8) (d1 := 2) (As := [.int a1, .int a2, .int v4, .int a3]) (st := []) (vk := (some (.int v8))) ((S_X0_addCall (by omega)) e8) tT_X0_addCall o8 (Or.inr ⟨_, rfl, rfl⟩) wd_940 wd_942 wd_5 (by omega) (by decide) rfl (by simp [mm_crf, mm_cti, mm_ctl]) rfl dX0_ring_8 ?_
  show V _ _ (.int v8 :: _) _
  cases hK
  exact mm_iret C (pc := 11) rfl dX0_ring_11 rfl rfl
theorem wd_913 : Cond.code yX0_whyNotRing cX0_whyNotRing 4 (some .int) ∈ lw_good := mm_wd 913 (by decide +kernel) (by decide +kernel)
theorem tT_X0_whyNotRing : mm_T yX0_whyNotRing cX0_whyNotRing 4 (some .int) 3 := ⟨wd_913, wd_150, by decide +kernel, by decide +kernel, by decide +kernel, by decide +kernel⟩
theorem wd_910 : Cond.methodLink RX11 182 yX0_whyNotRing ∈ lw_good := mm_wd 910 (by decide +kernel) (by decide +kernel)
theorem wd_911 : Cond.instanceMethod yX0_whyNotRing ∈ lw_good := mm_wd 911 (by decide +kernel) (by decide +kernel)
theorem wd_912 : Cond.selects RX0 yX0_whyNotRing yX0_whyNotRing ∈ lw_good := mm_wd 912 (by decide +kernel) (by decide +kernel)
theorem wd_925 : Cond.code yX3_keep cX3_keep 2 none ∈ lw_good := mm_wd 925 (by decide +kernel) (by decide +kernel)
theorem tT_X3_keep : mm_T yX3_keep cX3_keep 2 none 1 := ⟨wd_925, wd_143, by decide +kernel, by decide +kernel, by decide +kernel, by decide +kernel⟩
theorem wd_922 : Cond.methodLink RX11 186 yX3_keep ∈ lw_good := mm_wd 922 (by decide +kernel) (by decide +kernel)
theorem wd_923 : Cond.instanceMethod yX3_keep ∈ lw_good := mm_wd 923 (by decide +kernel) (by decide +kernel)
theorem wd_924 : Cond.selects RX3 yX3_keep yX3_keep ∈ lw_good := mm_wd 924 (by decide +kernel) (by decide +kernel)
theorem wd_935 : Cond.code yX0_ring cX0_ring 4 (some .int) ∈ lw_good := mm_wd 935 (by decide +kernel) (by decide +kernel)
theorem tT_X0_ring : mm_T yX0_ring cX0_ring 4 (some .int) 3 := ⟨wd_935, wd_150, by decide +kernel, by decide +kernel, by decide +kernel, by decide +kernel⟩
theorem wd_932 : Cond.methodLink RX11 190 yX0_ring ∈ lw_good := mm_wd 932 (by decide +kernel) (by decide +kernel)
theorem wd_933 : Cond.instanceMethod yX0_ring ∈ lw_good := mm_wd 933 (by decide +kernel) (by decide +kernel)
theorem wd_934 : Cond.selects RX0 yX0_ring yX0_ring ∈ lw_good := mm_wd 934 (by decide +kernel) (by decide +kernel)
def F_X11_dial (a0 : Option Nat) (a1 : Int32) (a2 : Int32) (a3 : Int32) (h : MH) : Option (Int32 × MH) := (gR h a0 11 5).bind fun v1 => mm_b2 (cV h v1 0 (F_X0_whyNotRing v1 a1 a2 a3 h)) fun v7 h7 => if v7 = 0 then ((gR h7 a0 11 6).bind fun v22 => (gR h7 a0 11 5).bind fun v26 => (cV h7 v22 3 (F_X3_keep v22 v26 h7)).bind fun h29 => (gR h29 a0 11 5).bind fun v33 => mm_b2 (cV h29 v33 0 (F_X0_ring v33 a1 a2 a3 h29)) fun v39 h39 => some (v39, h39)) else (some ((-v7), h7))
set_option maxRecDepth 20000 in
set_option maxHeartbeats 4000000 in
theorem S_X11_dial {d : Nat} (hd : 4 ≤ d) {a0 : Option Nat} {a1 : Int32} {a2 : Int32} {a3 : Int32} {h : MH} {r : Int32} {hz : MH} (hK : F_X11_dial a0 a1 a2 a3 h = some (r, hz)) : mm_M yX11_dial cX11_dial 5 (some .int) d [va_rf a0, .int a1, .int a2, .int a3] h (.inr (some (.int r))) hz := by
  refine mm_ofV (by decide +kernel) (by simp [lg_sl, mm_crf, mm_cti, mm_ctl]) (fun V C => ?_)
  rw [show lv_args 0 [va_rf a0, .int a1, .int a2, .int a3] = [(0, va_rf a0), (1, .int a1), (2, .int a2), (3, .int a3)] by simp [lv_args, mm_crf, mm_cti, mm_ctl]]
  unfold F_X11_dial at hK
  refine mm_aload_n C (pc := 0) 0 dX11_dial_0 rfl ?_
  replace hK := mm_bd hK; obtain ⟨v1, e1, hK⟩ := hK
  refine mm_getr C (pc := 1) (k := 5) inGX11 rfl (by decide) wd_850 dX11_dial_1 e1 ?_
  refine mm_iload_n C (pc := 4) 1 dX11_dial_4 rfl ?_
  refine mm_iload_n C (pc := 5) 2 dX11_dial_5 rfl ?_
  refine mm_iload_n C (pc := 6) 3 dX11_dial_6 rfl ?_
  replace hK := mm_b2s hK; obtain ⟨v7, h7, e7, hK⟩ := hK
  obtain ⟨o7, e7⟩ := cV_some e7
  refine mm_callV C (pc := 7) (d1 := 2) (As := [.int a1, .int a2, .int a3]) (st := []) (vk := (some (.int v7))) ((S_X0_whyNotRing (by omega)) e7) tT_X0_whyNotRing o7 (Or.inr ⟨_, rfl, rfl⟩) wd_910 wd_911 wd_912 (by omega) (by decide) rfl (by simp [mm_crf, mm_cti, mm_ctl]) rfl dX11_dial_7 ?_
  show V _ _ (.int v7 :: _) _
  refine mm_istore C (pc := 10) (i := 4) (lv' := [(4, .int v7), (0, va_rf a0), (1, .int a1), (2, .int a2), (3, .int a3)]) dX11_dial_10 (by decide) rfl ?_
  refine mm_iload C (pc := 12) 0 dX11_dial_12 rfl ?_
  refine mm_if_eq C (pc := 14) (tgt := 21) dX11_dial_14 (by decide) (fun hc => ?_) (fun hc => ?_)
  · replace hK := mm_ip hc hK
    refine mm_aload_n C (pc := 21) 1 dX11_dial_21 rfl ?_
    replace hK := mm_bd hK; obtain ⟨v22, e22, hK⟩ := hK
    refine mm_getr C (pc := 22) (k := 6) inGX11 rfl (by decide) wd_851 dX11_dial_22 e22 ?_
    refine mm_aload_n C (pc := 25) 1 dX11_dial_25 rfl ?_
    replace hK := mm_bd hK; obtain ⟨v26, e26, hK⟩ := hK
    refine mm_getr C (pc := 26) (k := 5) inGX11 rfl (by decide) wd_850 dX11_dial_26 e26 ?_
    replace hK := mm_bd hK; obtain ⟨h29, e29, hK⟩ := hK
    obtain ⟨o29, e29⟩ := cV_some e29
    refine mm_callV C (pc := 29) (d1 := 2) (As := [va_rf v26]) (st := []) (vk := none) ((S_X3_keep (by omega)) e29) tT_X3_keep o29 (Or.inr ⟨_, rfl, rfl⟩) wd_922 wd_923 wd_924 (by omega) (by decide) rfl (by simp [mm_crf, mm_cti, mm_ctl]) rfl dX11_dial_29 ?_
    show V _ _ [] _
    refine mm_aload_n C (pc := 32) 1 dX11_dial_32 rfl ?_
    replace hK := mm_bd hK; obtain ⟨v33, e33, hK⟩ := hK
    refine mm_getr C (pc := 33) (k := 5) inGX11 rfl (by decide) wd_850 dX11_dial_33 e33 ?_
    refine mm_iload_n C (pc := 36) 2 dX11_dial_36 rfl ?_
    refine mm_iload_n C (pc := 37) 3 dX11_dial_37 rfl ?_
    refine mm_iload_n C (pc := 38) 4 dX11_dial_38 rfl ?_
    replace hK := mm_b2s hK; obtain ⟨v39, h39, e39, hK⟩ := hK
    obtain ⟨o39, e39⟩ := cV_some e39
    refine mm_callV C (pc := 39) (d1 := 3) (As := [.int a1, .int a2, .int a3]) (st := []) (vk := (some (.int v39))) ((S_X0_ring (by omega)) e39) tT_X0_ring o39 (Or.inr ⟨_, rfl, rfl⟩) wd_932 wd_933 wd_934 (by omega) (by decide) rfl (by simp [mm_crf, mm_cti, mm_ctl]) rfl dX11_dial_39 ?_
    show V _ _ (.int v39 :: _) _
    cases hK
    exact mm_iret C (pc := 42) rfl dX11_dial_42 rfl rfl
  · replace hK := mm_in hc hK
    refine mm_iload C (pc := 17) 0 dX11_dial_17 rfl ?_
    refine mm_ineg C (pc := 19) dX11_dial_19 ?_
    cases hK
    exact mm_iret C (pc := 20) rfl dX11_dial_20 rfl rfl
def F_X0_whyNotUnplug_12 (h : MH) : Option (Int32 × MH) := some ((1 : Int32), h)
set_option maxRecDepth 20000 in
set_option maxHeartbeats 4000000 in
theorem w_X0_whyNotUnplug_12 {d : Nat} {V : Nat → List (Nat × Value) → List Value → MH → Prop} {r : Int32} {hz : MH} (hd : 3 ≤ d) (C : mm_C d yX0_whyNotUnplug cX0_whyNotUnplug 2 (some .int) (.inr (some (.int r))) hz V) (h : MH) (hK : F_X0_whyNotUnplug_12  h = some (r, hz)) : V 12 [] [] h := by
  unfold F_X0_whyNotUnplug_12 at hK
  refine mm_iconst C (pc := 12) (v := (1 : Int32)) dX0_whyNotUnplug_12 (by decide) ?_
  cases hK
  exact mm_iret C (pc := 13) rfl dX0_whyNotUnplug_13 rfl rfl
def F_X0_whyNotUnplug_27 (s0 : Int32) (h : MH) : Option (Int32 × MH) := some (s0, h)
set_option maxRecDepth 20000 in
set_option maxHeartbeats 4000000 in
theorem w_X0_whyNotUnplug_27 {d : Nat} {V : Nat → List (Nat × Value) → List Value → MH → Prop} {r : Int32} {hz : MH} (hd : 3 ≤ d) (C : mm_C d yX0_whyNotUnplug cX0_whyNotUnplug 2 (some .int) (.inr (some (.int r))) hz V) (s0 : Int32) (h : MH) (hK : F_X0_whyNotUnplug_27 s0 h = some (r, hz)) : V 27 [] [.int s0] h := by
  unfold F_X0_whyNotUnplug_27 at hK
  cases hK
  exact mm_iret C (pc := 27) rfl dX0_whyNotUnplug_27 rfl rfl
def F_X0_whyNotUnplug (a0 : Option Nat) (a1 : Int32) (h : MH) : Option (Int32 × MH) := if a1 < 0 then (F_X0_whyNotUnplug_12 h) else (mm_b2 (cV h a0 0 (F_X0_calls a0 h)) fun v6 h6 => if a1 < v6 then (mm_b2 (cV h6 a0 0 (F_X0_isOn a0 a1 h6)) fun v16 h16 => if v16 = 0 then (F_X0_whyNotUnplug_27 (2 : Int32) h16) else (F_X0_whyNotUnplug_27 (0 : Int32) h16)) else (F_X0_whyNotUnplug_12 h6))
set_option maxRecDepth 20000 in
set_option maxHeartbeats 4000000 in
theorem S_X0_whyNotUnplug {d : Nat} (hd : 3 ≤ d) {a0 : Option Nat} {a1 : Int32} {h : MH} {r : Int32} {hz : MH} (hK : F_X0_whyNotUnplug a0 a1 h = some (r, hz)) : mm_M yX0_whyNotUnplug cX0_whyNotUnplug 2 (some .int) d [va_rf a0, .int a1] h (.inr (some (.int r))) hz := by
  refine mm_ofV (by decide +kernel) (by simp [lg_sl, mm_crf, mm_cti, mm_ctl]) (fun V C => ?_)
  rw [show lv_args 0 [va_rf a0, .int a1] = [(0, va_rf a0), (1, .int a1)] by simp [lv_args, mm_crf, mm_cti, mm_ctl]]
  unfold F_X0_whyNotUnplug at hK
  refine mm_iload_n C (pc := 0) 1 dX0_whyNotUnplug_0 rfl ?_
  refine mm_if_lt C (pc := 1) (tgt := 12) dX0_whyNotUnplug_1 (by decide) (fun hc => ?_) (fun hc => ?_)
  · replace hK := mm_ip hc hK
    refine mm_sub C [] rfl ?_
    exact w_X0_whyNotUnplug_12 hd C _ hK
  · replace hK := mm_in hc hK
    refine mm_iload_n C (pc := 4) 1 dX0_whyNotUnplug_4 rfl ?_
    refine mm_aload_n C (pc := 5) 0 dX0_whyNotUnplug_5 rfl ?_
    replace hK := mm_b2s hK; obtain ⟨v6, h6, e6, hK⟩ := hK
    obtain ⟨o6, e6⟩ := cV_some e6
    refine mm_callV C (pc := 6) (d1 := 1) (As := []) (st := [.int a1]) (vk := (some (.int v6))) ((S_X0_calls (by omega)) e6) tT_X0_calls o6 (Or.inr ⟨_, rfl, rfl⟩) wd_918 wd_919 wd_920 (by omega) (by decide) rfl (by simp [mm_crf, mm_cti, mm_ctl]) rfl dX0_whyNotUnplug_6 ?_
    show V _ _ (.int v6 :: _) _
    refine mm_icmp_lt C (pc := 9) (tgt := 14) dX0_whyNotUnplug_9 (by decide) (fun hc => ?_) (fun hc => ?_)
    · replace hK := mm_ip hc hK
      refine mm_aload_n C (pc := 14) 0 dX0_whyNotUnplug_14 rfl ?_
      refine mm_iload_n C (pc := 15) 1 dX0_whyNotUnplug_15 rfl ?_
      replace hK := mm_b2s hK; obtain ⟨v16, h16, e16, hK⟩ := hK
      obtain ⟨o16, e16⟩ := cV_some e16
      refine mm_callV C (pc := 16) (d1 := 2) (As := [.int a1]) (st := []) (vk := (some (.int v16))) ((S_X0_isOn (by omega)) e16) tT_X0_isOn o16 (Or.inr ⟨_, rfl, rfl⟩) wd_956 wd_957 wd_958 (by omega) (by decide) rfl (by simp [mm_crf, mm_cti, mm_ctl]) rfl dX0_whyNotUnplug_16 ?_
      show V _ _ (.int v16 :: _) _
      refine mm_if_eq C (pc := 19) (tgt := 26) dX0_whyNotUnplug_19 (by decide) (fun hc => ?_) (fun hc => ?_)
      · replace hK := mm_ip hc hK
        refine mm_iconst C (pc := 26) (v := (2 : Int32)) dX0_whyNotUnplug_26 (by decide) ?_
        refine mm_sub C [] rfl ?_
        exact w_X0_whyNotUnplug_27 hd C _ _ hK
      · replace hK := mm_in hc hK
        refine mm_iconst C (pc := 22) (v := (0 : Int32)) dX0_whyNotUnplug_22 (by decide) ?_
        refine mm_goto C (pc := 23) (tgt := 27) dX0_whyNotUnplug_23 (by decide) ?_
        refine mm_sub C [] rfl ?_
        exact w_X0_whyNotUnplug_27 hd C _ _ hK
    · replace hK := mm_in hc hK
      refine mm_sub C [] rfl ?_
      exact w_X0_whyNotUnplug_12 hd C _ hK
def F_X0_unplug (a0 : Option Nat) (a1 : Int32) (h : MH) : Option (Int32 × MH) := (cV h a0 0 (F_X0_setFact a0 a1 (4 : Int32) (2 : Int32) h)).bind fun h4 => mm_b2 (cV h4 a0 0 (F_X0_fact a0 a1 (6 : Int32) h4)) fun v11 h11 => some (v11, h11)
set_option maxRecDepth 20000 in
set_option maxHeartbeats 4000000 in
theorem S_X0_unplug {d : Nat} (hd : 2 ≤ d) {a0 : Option Nat} {a1 : Int32} {h : MH} {r : Int32} {hz : MH} (hK : F_X0_unplug a0 a1 h = some (r, hz)) : mm_M yX0_unplug cX0_unplug 2 (some .int) d [va_rf a0, .int a1] h (.inr (some (.int r))) hz := by
  refine mm_ofV (by decide +kernel) (by simp [lg_sl, mm_crf, mm_cti, mm_ctl]) (fun V C => ?_)
  rw [show lv_args 0 [va_rf a0, .int a1] = [(0, va_rf a0), (1, .int a1)] by simp [lv_args, mm_crf, mm_cti, mm_ctl]]
  unfold F_X0_unplug at hK
  refine mm_aload_n C (pc := 0) 0 dX0_unplug_0 rfl ?_
  refine mm_iload_n C (pc := 1) 1 dX0_unplug_1 rfl ?_
  refine mm_iconst C (pc := 2) (v := (4 : Int32)) dX0_unplug_2 (by decide) ?_
  refine mm_iconst C (pc := 3) (v := (2 : Int32)) dX0_unplug_3 (by decide) ?_
  replace hK := mm_bd hK; obtain ⟨h4, e4, hK⟩ := hK
  obtain ⟨o4, e4⟩ := cV_some e4
  refine mm_callV C (pc := 4) (d1 := 1) (As := [.int a1, .int (4 : Int32), .int (2 : Int32)]) (st := []) (vk := none) ((S_X0_setFact (by omega)) e4) tT_X0_setFact o4 (Or.inr ⟨_, rfl, rfl⟩) wd_944 wd_946 wd_6 (by omega) (by decide) rfl (by simp [mm_crf, mm_cti, mm_ctl]) rfl dX0_unplug_4 ?_
  show V _ _ [] _
  refine mm_aload_n C (pc := 7) 0 dX0_unplug_7 rfl ?_
  refine mm_iload_n C (pc := 8) 1 dX0_unplug_8 rfl ?_
  refine mm_bipush C (pc := 9) (v := (6 : Int32)) dX0_unplug_9 (by decide) ?_
  replace hK := mm_b2s hK; obtain ⟨v11, h11, e11, hK⟩ := hK
  obtain ⟨o11, e11⟩ := cV_some e11
  refine mm_callV C (pc := 11) (d1 := 1) (As := [.int a1, .int (6 : Int32)]) (st := []) (vk := (some (.int v11))) ((S_X0_fact (by omega)) e11) tT_X0_fact o11 (Or.inr ⟨_, rfl, rfl⟩) wd_960 wd_961 wd_962 (by omega) (by decide) rfl (by simp [mm_crf, mm_cti, mm_ctl]) rfl dX0_unplug_11 ?_
  show V _ _ (.int v11 :: _) _
  cases hK
  exact mm_iret C (pc := 14) rfl dX0_unplug_14 rfl rfl
theorem wd_955 : Cond.code yX0_whyNotUnplug cX0_whyNotUnplug 2 (some .int) ∈ lw_good := mm_wd 955 (by decide +kernel) (by decide +kernel)
theorem tT_X0_whyNotUnplug : mm_T yX0_whyNotUnplug cX0_whyNotUnplug 2 (some .int) 1 := ⟨wd_955, wd_150, by decide +kernel, by decide +kernel, by decide +kernel, by decide +kernel⟩
theorem wd_952 : Cond.methodLink RX11 193 yX0_whyNotUnplug ∈ lw_good := mm_wd 952 (by decide +kernel) (by decide +kernel)
theorem wd_953 : Cond.instanceMethod yX0_whyNotUnplug ∈ lw_good := mm_wd 953 (by decide +kernel) (by decide +kernel)
theorem wd_954 : Cond.selects RX0 yX0_whyNotUnplug yX0_whyNotUnplug ∈ lw_good := mm_wd 954 (by decide +kernel) (by decide +kernel)
theorem wd_967 : Cond.code yX0_unplug cX0_unplug 2 (some .int) ∈ lw_good := mm_wd 967 (by decide +kernel) (by decide +kernel)
theorem tT_X0_unplug : mm_T yX0_unplug cX0_unplug 2 (some .int) 1 := ⟨wd_967, wd_150, by decide +kernel, by decide +kernel, by decide +kernel, by decide +kernel⟩
theorem wd_964 : Cond.methodLink RX11 196 yX0_unplug ∈ lw_good := mm_wd 964 (by decide +kernel) (by decide +kernel)
theorem wd_965 : Cond.instanceMethod yX0_unplug ∈ lw_good := mm_wd 965 (by decide +kernel) (by decide +kernel)
theorem wd_966 : Cond.selects RX0 yX0_unplug yX0_unplug ∈ lw_good := mm_wd 966 (by decide +kernel) (by decide +kernel)
def F_X11_pull (a0 : Option Nat) (a1 : Int32) (h : MH) : Option (Int32 × MH) := (gR h a0 11 5).bind fun v1 => mm_b2 (cV h v1 0 (F_X0_whyNotUnplug v1 a1 h)) fun v5 h5 => if v5 = 0 then ((gR h5 a0 11 6).bind fun v19 => (gR h5 a0 11 5).bind fun v23 => (cV h5 v19 3 (F_X3_keep v19 v23 h5)).bind fun h26 => (gR h26 a0 11 5).bind fun v30 => mm_b2 (cV h26 v30 0 (F_X0_unplug v30 a1 h26)) fun v34 h34 => some (v34, h34)) else (some ((((-10) : Int32) - v5), h5))
set_option maxRecDepth 20000 in
set_option maxHeartbeats 4000000 in
theorem S_X11_pull {d : Nat} (hd : 4 ≤ d) {a0 : Option Nat} {a1 : Int32} {h : MH} {r : Int32} {hz : MH} (hK : F_X11_pull a0 a1 h = some (r, hz)) : mm_M yX11_pull cX11_pull 3 (some .int) d [va_rf a0, .int a1] h (.inr (some (.int r))) hz := by
  refine mm_ofV (by decide +kernel) (by simp [lg_sl, mm_crf, mm_cti, mm_ctl]) (fun V C => ?_)
  rw [show lv_args 0 [va_rf a0, .int a1] = [(0, va_rf a0), (1, .int a1)] by simp [lv_args, mm_crf, mm_cti, mm_ctl]]
  unfold F_X11_pull at hK
  refine mm_aload_n C (pc := 0) 0 dX11_pull_0 rfl ?_
  replace hK := mm_bd hK; obtain ⟨v1, e1, hK⟩ := hK
  refine mm_getr C (pc := 1) (k := 5) inGX11 rfl (by decide) wd_850 dX11_pull_1 e1 ?_
  refine mm_iload_n C (pc := 4) 1 dX11_pull_4 rfl ?_
  replace hK := mm_b2s hK; obtain ⟨v5, h5, e5, hK⟩ := hK
  obtain ⟨o5, e5⟩ := cV_some e5
  refine mm_callV C (pc := 5) (d1 := 3) (As := [.int a1]) (st := []) (vk := (some (.int v5))) ((S_X0_whyNotUnplug (by omega)) e5) tT_X0_whyNotUnplug o5 (Or.inr ⟨_, rfl, rfl⟩) wd_952 wd_953 wd_954 (by omega) (by decide) rfl (by simp [mm_crf, mm_cti, mm_ctl]) rfl dX11_pull_5 ?_
  show V _ _ (.int v5 :: _) _
  refine mm_istore_n C (pc := 8) (i := 2) (lv' := [(2, .int v5), (0, va_rf a0), (1, .int a1)]) dX11_pull_8 rfl (by decide) rfl ?_
  refine mm_iload_n C (pc := 9) 0 dX11_pull_9 rfl ?_
  refine mm_if_eq C (pc := 10) (tgt := 18) dX11_pull_10 (by decide) (fun hc => ?_) (fun hc => ?_)
  · replace hK := mm_ip hc hK
    refine mm_aload_n C (pc := 18) 1 dX11_pull_18 rfl ?_
    replace hK := mm_bd hK; obtain ⟨v19, e19, hK⟩ := hK
    refine mm_getr C (pc := 19) (k := 6) inGX11 rfl (by decide) wd_851 dX11_pull_19 e19 ?_
    refine mm_aload_n C (pc := 22) 1 dX11_pull_22 rfl ?_
    replace hK := mm_bd hK; obtain ⟨v23, e23, hK⟩ := hK
    refine mm_getr C (pc := 23) (k := 5) inGX11 rfl (by decide) wd_850 dX11_pull_23 e23 ?_
    replace hK := mm_bd hK; obtain ⟨h26, e26, hK⟩ := hK
    obtain ⟨o26, e26⟩ := cV_some e26
    refine mm_callV C (pc := 26) (d1 := 2) (As := [va_rf v23]) (st := []) (vk := none) ((S_X3_keep (by omega)) e26) tT_X3_keep o26 (Or.inr ⟨_, rfl, rfl⟩) wd_922 wd_923 wd_924 (by omega) (by decide) rfl (by simp [mm_crf, mm_cti, mm_ctl]) rfl dX11_pull_26 ?_
    show V _ _ [] _
    refine mm_aload_n C (pc := 29) 1 dX11_pull_29 rfl ?_
    replace hK := mm_bd hK; obtain ⟨v30, e30, hK⟩ := hK
    refine mm_getr C (pc := 30) (k := 5) inGX11 rfl (by decide) wd_850 dX11_pull_30 e30 ?_
    refine mm_iload_n C (pc := 33) 2 dX11_pull_33 rfl ?_
    replace hK := mm_b2s hK; obtain ⟨v34, h34, e34, hK⟩ := hK
    obtain ⟨o34, e34⟩ := cV_some e34
    refine mm_callV C (pc := 34) (d1 := 2) (As := [.int a1]) (st := []) (vk := (some (.int v34))) ((S_X0_unplug (by omega)) e34) tT_X0_unplug o34 (Or.inr ⟨_, rfl, rfl⟩) wd_964 wd_965 wd_966 (by omega) (by decide) rfl (by simp [mm_crf, mm_cti, mm_ctl]) rfl dX11_pull_34 ?_
    show V _ _ (.int v34 :: _) _
    cases hK
    exact mm_iret C (pc := 37) rfl dX11_pull_37 rfl rfl
  · replace hK := mm_in hc hK
    refine mm_bipush C (pc := 13) (v := ((-10) : Int32)) dX11_pull_13 (by decide) ?_
    refine mm_iload_n C (pc := 15) 0 dX11_pull_15 rfl ?_
    refine mm_isub C (pc := 16) dX11_pull_16 ?_
    obtain ⟨rfl, rfl⟩ := Prod.mk.inj (Option.some.inj hK)
    exact mm_iret C (pc := 17) rfl dX11_pull_17 rfl rfl
def F_X0_turnDoor_20 (h : MH) : Option MH := some h
set_option maxRecDepth 20000 in
set_option maxHeartbeats 4000000 in
theorem w_X0_turnDoor_20 {d : Nat} {V : Nat → List (Nat × Value) → List Value → MH → Prop} {hz : MH} (hd : 2 ≤ d) (C : mm_C d yX0_turnDoor cX0_turnDoor 2 none (.inr none) hz V) (h : MH) (hK : F_X0_turnDoor_20  h = some hz) : V 20 [] [] h := by
  unfold F_X0_turnDoor_20 at hK
  cases hK
  exact mm_vret C (pc := 20) rfl dX0_turnDoor_20 rfl rfl
def F_X0_turnDoor (a0 : Option Nat) (a1 : Int32) (h : MH) : Option MH := mm_b2 (cV h a0 0 (F_X0_isLine a0 a1 h)) fun v2 h2 => if v2 = 0 then (F_X0_turnDoor_20 h2) else ((gR h2 a0 0 0).bind fun v9 => (aI h2 v9 0 (2 : Int32)).bind fun v14 => (sI h2 v9 0 (2 : Int32) (v14 ^^^ ((1 : Int32) <<< (a1 &&& 31)))).bind fun h19 => F_X0_turnDoor_20 h19)
set_option maxRecDepth 20000 in
set_option maxHeartbeats 4000000 in
theorem S_X0_turnDoor {d : Nat} (hd : 2 ≤ d) {a0 : Option Nat} {a1 : Int32} {h : MH} {hz : MH} (hK : F_X0_turnDoor a0 a1 h = some hz) : mm_M yX0_turnDoor cX0_turnDoor 2 none d [va_rf a0, .int a1] h (.inr none) hz := by
  refine mm_ofV (by decide +kernel) (by simp [lg_sl, mm_crf, mm_cti, mm_ctl]) (fun V C => ?_)
  rw [show lv_args 0 [va_rf a0, .int a1] = [(0, va_rf a0), (1, .int a1)] by simp [lv_args, mm_crf, mm_cti, mm_ctl]]
  unfold F_X0_turnDoor at hK
  refine mm_aload_n C (pc := 0) 0 dX0_turnDoor_0 rfl ?_
  refine mm_iload_n C (pc := 1) 1 dX0_turnDoor_1 rfl ?_
  replace hK := mm_b2s hK; obtain ⟨v2, h2, e2, hK⟩ := hK
  obtain ⟨o2, e2⟩ := cV_some e2
  refine mm_callV C (pc := 2) (d1 := 1) (As := [.int a1]) (st := []) (vk := (some (.int v2))) ((S_X0_isLine (by omega)) e2) tT_X0_isLine o2 (Or.inr ⟨_, rfl, rfl⟩) wd_914 wd_916 wd_4 (by omega) (by decide) rfl (by simp [mm_crf, mm_cti, mm_ctl]) rfl dX0_turnDoor_2 ?_
  show V _ _ (.int v2 :: _) _
  refine mm_if_eq C (pc := 5) (tgt := 20) dX0_turnDoor_5 (by decide) (fun hc => ?_) (fun hc => ?_)
  · replace hK := mm_ip hc hK
    refine mm_sub C [] rfl ?_
    exact w_X0_turnDoor_20 hd C _ hK
  · replace hK := mm_in hc hK
    refine mm_aload_n C (pc := 8) 0 dX0_turnDoor_8 rfl ?_
    replace hK := mm_bd hK; obtain ⟨v9, e9, hK⟩ := hK
    refine mm_getr C (pc := 9) (k := 0) inGX0 rfl (by decide) wd_816 dX0_turnDoor_9 e9 ?_
    refine mm_iconst C (pc := 12) (v := (2 : Int32)) dX0_turnDoor_12 (by decide) ?_
    refine mm_dup2 C (pc := 13) dX0_turnDoor_13 rfl mm_crf ?_
    replace hK := mm_bd hK; obtain ⟨v14, e14, hK⟩ := hK
    refine mm_iald C (pc := 14) dX0_turnDoor_14 e14 ?_
    refine mm_iconst C (pc := 15) (v := (1 : Int32)) dX0_turnDoor_15 (by decide) ?_
    refine mm_iload_n C (pc := 16) 1 dX0_turnDoor_16 rfl ?_
    refine mm_ishl C (pc := 17) dX0_turnDoor_17 ?_
    refine mm_ixor C (pc := 18) dX0_turnDoor_18 ?_
    replace hK := mm_bd hK; obtain ⟨h19, e19, hK⟩ := hK
    refine mm_iast C (pc := 19) dX0_turnDoor_19 e19 ?_
    refine mm_sub C [] rfl ?_
    exact w_X0_turnDoor_20 hd C _ hK
theorem wd_1508 : Cond.code yX0_turnDoor cX0_turnDoor 2 none ∈ lw_good := mm_wd 1508 (by decide +kernel) (by decide +kernel)
theorem tT_X0_turnDoor : mm_T yX0_turnDoor cX0_turnDoor 2 none 1 := ⟨wd_1508, wd_150, by decide +kernel, by decide +kernel, by decide +kernel, by decide +kernel⟩
theorem wd_1505 : Cond.methodLink RX11 199 yX0_turnDoor ∈ lw_good := mm_wd 1505 (by decide +kernel) (by decide +kernel)
theorem wd_1506 : Cond.instanceMethod yX0_turnDoor ∈ lw_good := mm_wd 1506 (by decide +kernel) (by decide +kernel)
theorem wd_1507 : Cond.selects RX0 yX0_turnDoor yX0_turnDoor ∈ lw_good := mm_wd 1507 (by decide +kernel) (by decide +kernel)
def F_X11_door_40 (s0 : Int32) (h : MH) : Option ((String ⊕ Int32) × MH) := some (.inr s0, h)
set_option maxRecDepth 20000 in
set_option maxHeartbeats 4000000 in
theorem w_X11_door_40 {d : Nat} {V : Nat → List (Nat × Value) → List Value → MH → Prop} {r : String ⊕ Int32} {hz : MH} (hd : 7 ≤ d) (C : mm_C d yX11_door cX11_door 2 (some .int) (mm_oi r) hz V) (s0 : Int32) (h : MH) (hK : F_X11_door_40 s0 h = some (r, hz)) : V 40 [] [.int s0] h := by
  unfold F_X11_door_40 at hK
  cases hK
  exact mm_iret C (pc := 40) rfl dX11_door_40 rfl rfl
def F_X11_door (a0 : Option Nat) (a1 : Int32) (h : MH) : Option ((String ⊕ Int32) × MH) := mm_b3 (cV h a0 11 (F_X11_needLine a0 a1 h)) fun _ h2 => (gR h2 a0 11 6).bind fun v6 => (gR h2 a0 11 5).bind fun v10 => (cV h2 v6 3 (F_X3_keep v6 v10 h2)).bind fun h13 => (gR h13 a0 11 5).bind fun v17 => (cV h13 v17 0 (F_X0_turnDoor v17 a1 h13)).bind fun h21 => (gR h21 a0 11 5).bind fun v25 => mm_b2 (cV h21 v25 0 (F_X0_isShut v25 a1 h21)) fun v29 h29 => if v29 = 0 then (F_X11_door_40 (0 : Int32) h29) else (F_X11_door_40 (1 : Int32) h29)
set_option maxRecDepth 20000 in
set_option maxHeartbeats 4000000 in
theorem S_X11_door {d : Nat} (hd : 7 ≤ d) {a0 : Option Nat} {a1 : Int32} {h : MH} {r : String ⊕ Int32} {hz : MH} (hK : F_X11_door a0 a1 h = some (r, hz)) : mm_M yX11_door cX11_door 2 (some .int) d [va_rf a0, .int a1] h (mm_oi r) hz := by
  refine mm_ofV (by decide +kernel) (by simp [lg_sl, mm_crf, mm_cti, mm_ctl]) (fun V C => ?_)
  rw [show lv_args 0 [va_rf a0, .int a1] = [(0, va_rf a0), (1, .int a1)] by simp [lv_args, mm_crf, mm_cti, mm_ctl]]
  unfold F_X11_door at hK
  refine mm_aload_n C (pc := 0) 0 dX11_door_0 rfl ?_
  refine mm_iload_n C (pc := 1) 1 dX11_door_1 rfl ?_
  replace hK := mm_b3s hK; rcases hK with ⟨E2, e2, rfl⟩ | ⟨v2, h2, e2, hK⟩
  · obtain ⟨o2, e2⟩ := cV_some e2
    exact mm_callVX C (pc := 2) (d1 := 6) (As := [.int a1]) (st := []) ((S_X11_needLine (by omega)) e2) tT_X11_needLine o2 (Or.inr ⟨_, rfl, rfl⟩) wd_1430 wd_1432 wd_38 (by omega) (by decide) rfl (by simp [mm_crf, mm_cti, mm_ctl]) rfl dX11_door_2 rfl rfl
  obtain ⟨o2, e2⟩ := cV_some e2
  refine mm_callV C (pc := 2) (d1 := 6) (As := [.int a1]) (st := []) (vk := none) ((S_X11_needLine (by omega)) e2) tT_X11_needLine o2 (Or.inr ⟨_, rfl, rfl⟩) wd_1430 wd_1432 wd_38 (by omega) (by decide) rfl (by simp [mm_crf, mm_cti, mm_ctl]) rfl dX11_door_2 ?_
  show V _ _ [] _
  refine mm_aload_n C (pc := 5) 0 dX11_door_5 rfl ?_
  replace hK := mm_bd hK; obtain ⟨v6, e6, hK⟩ := hK
  refine mm_getr C (pc := 6) (k := 6) inGX11 rfl (by decide) wd_851 dX11_door_6 e6 ?_
  refine mm_aload_n C (pc := 9) 0 dX11_door_9 rfl ?_
  replace hK := mm_bd hK; obtain ⟨v10, e10, hK⟩ := hK
  refine mm_getr C (pc := 10) (k := 5) inGX11 rfl (by decide) wd_850 dX11_door_10 e10 ?_
  replace hK := mm_bd hK; obtain ⟨h13, e13, hK⟩ := hK
  obtain ⟨o13, e13⟩ := cV_some e13
  refine mm_callV C (pc := 13) (d1 := 2) (As := [va_rf v10]) (st := []) (vk := none) ((S_X3_keep (by omega)) e13) tT_X3_keep o13 (Or.inr ⟨_, rfl, rfl⟩) wd_922 wd_923 wd_924 (by omega) (by decide) rfl (by simp [mm_crf, mm_cti, mm_ctl]) rfl dX11_door_13 ?_
  show V _ _ [] _
  refine mm_aload_n C (pc := 16) 0 dX11_door_16 rfl ?_
  replace hK := mm_bd hK; obtain ⟨v17, e17, hK⟩ := hK
  refine mm_getr C (pc := 17) (k := 5) inGX11 rfl (by decide) wd_850 dX11_door_17 e17 ?_
  refine mm_iload_n C (pc := 20) 1 dX11_door_20 rfl ?_
  replace hK := mm_bd hK; obtain ⟨h21, e21, hK⟩ := hK
  obtain ⟨o21, e21⟩ := cV_some e21
  refine mm_callV C (pc := 21) (d1 := 2) (As := [.int a1]) (st := []) (vk := none) ((S_X0_turnDoor (by omega)) e21) tT_X0_turnDoor o21 (Or.inr ⟨_, rfl, rfl⟩) wd_1505 wd_1506 wd_1507 (by omega) (by decide) rfl (by simp [mm_crf, mm_cti, mm_ctl]) rfl dX11_door_21 ?_
  show V _ _ [] _
  refine mm_aload_n C (pc := 24) 0 dX11_door_24 rfl ?_
  replace hK := mm_bd hK; obtain ⟨v25, e25, hK⟩ := hK
  refine mm_getr C (pc := 25) (k := 5) inGX11 rfl (by decide) wd_850 dX11_door_25 e25 ?_
  refine mm_iload_n C (pc := 28) 1 dX11_door_28 rfl ?_
  replace hK := mm_b2s hK; obtain ⟨v29, h29, e29, hK⟩ := hK
  obtain ⟨o29, e29⟩ := cV_some e29
  refine mm_callV C (pc := 29) (d1 := 2) (As := [.int a1]) (st := []) (vk := (some (.int v29))) ((S_X0_isShut (by omega)) e29) tT_X0_isShut o29 (Or.inr ⟨_, rfl, rfl⟩) wd_1454 wd_1012 wd_1013 (by omega) (by decide) rfl (by simp [mm_crf, mm_cti, mm_ctl]) rfl dX11_door_29 ?_
  show V _ _ (.int v29 :: _) _
  refine mm_if_eq C (pc := 32) (tgt := 39) dX11_door_32 (by decide) (fun hc => ?_) (fun hc => ?_)
  · replace hK := mm_ip hc hK
    refine mm_iconst C (pc := 39) (v := (0 : Int32)) dX11_door_39 (by decide) ?_
    refine mm_sub C [] rfl ?_
    exact w_X11_door_40 hd C _ _ hK
  · replace hK := mm_in hc hK
    refine mm_iconst C (pc := 35) (v := (1 : Int32)) dX11_door_35 (by decide) ?_
    refine mm_goto C (pc := 36) (tgt := 40) dX11_door_36 (by decide) ?_
    refine mm_sub C [] rfl ?_
    exact w_X11_door_40 hd C _ _ hK
def F_X0_isToCome_14 (s0 : Int32) (h : MH) : Option (Int32 × MH) := rZ s0 h
set_option maxRecDepth 20000 in
set_option maxHeartbeats 4000000 in
theorem w_X0_isToCome_14 {d : Nat} {V : Nat → List (Nat × Value) → List Value → MH → Prop} {r : Int32} {hz : MH} (hd : 2 ≤ d) (C : mm_C d yX0_isToCome cX0_isToCome 2 (some .boolean) (.inr (some (.int r))) hz V) (s0 : Int32) (h : MH) (hK : F_X0_isToCome_14 s0 h = some (r, hz)) : V 14 [] [.int s0] h := by
  unfold F_X0_isToCome_14 at hK
  replace hK := rZ_some hK; obtain ⟨hv14, hK⟩ := hK
  cases hK
  exact mm_zret C (pc := 14) rfl (mm_nrZ hv14) dX0_isToCome_14 rfl rfl
def F_X0_isToCome (a0 : Option Nat) (a1 : Int32) (h : MH) : Option (Int32 × MH) := mm_b2 (cV h a0 0 (F_X0_fact a0 a1 (4 : Int32) h)) fun v3 h3 => if v3 = 0 then (F_X0_isToCome_14 (1 : Int32) h3) else (F_X0_isToCome_14 (0 : Int32) h3)
set_option maxRecDepth 20000 in
set_option maxHeartbeats 4000000 in
theorem S_X0_isToCome {d : Nat} (hd : 2 ≤ d) {a0 : Option Nat} {a1 : Int32} {h : MH} {r : Int32} {hz : MH} (hK : F_X0_isToCome a0 a1 h = some (r, hz)) : mm_M yX0_isToCome cX0_isToCome 2 (some .boolean) d [va_rf a0, .int a1] h (.inr (some (.int r))) hz := by
  refine mm_ofV (by decide +kernel) (by simp [lg_sl, mm_crf, mm_cti, mm_ctl]) (fun V C => ?_)
  rw [show lv_args 0 [va_rf a0, .int a1] = [(0, va_rf a0), (1, .int a1)] by simp [lv_args, mm_crf, mm_cti, mm_ctl]]
  unfold F_X0_isToCome at hK
  refine mm_aload_n C (pc := 0) 0 dX0_isToCome_0 rfl ?_
  refine mm_iload_n C (pc := 1) 1 dX0_isToCome_1 rfl ?_
  refine mm_iconst C (pc := 2) (v := (4 : Int32)) dX0_isToCome_2 (by decide) ?_
  replace hK := mm_b2s hK; obtain ⟨v3, h3, e3, hK⟩ := hK
  obtain ⟨o3, e3⟩ := cV_some e3
  refine mm_callV C (pc := 3) (d1 := 1) (As := [.int a1, .int (4 : Int32)]) (st := []) (vk := (some (.int v3))) ((S_X0_fact (by omega)) e3) tT_X0_fact o3 (Or.inr ⟨_, rfl, rfl⟩) wd_960 wd_961 wd_962 (by omega) (by decide) rfl (by simp [mm_crf, mm_cti, mm_ctl]) rfl dX0_isToCome_3 ?_
  show V _ _ (.int v3 :: _) _
  refine mm_if_ne C (pc := 6) (tgt := 13) dX0_isToCome_6 (by decide) (fun hc => ?_) (fun hc => ?_)
  · replace hK := mm_in hc hK
    refine mm_iconst C (pc := 13) (v := (0 : Int32)) dX0_isToCome_13 (by decide) ?_
    refine mm_sub C [] rfl ?_
    exact w_X0_isToCome_14 hd C _ _ hK
  · replace hK := mm_ip hc hK
    refine mm_iconst C (pc := 9) (v := (1 : Int32)) dX0_isToCome_9 (by decide) ?_
    refine mm_goto C (pc := 10) (tgt := 14) dX0_isToCome_10 (by decide) ?_
    refine mm_sub C [] rfl ?_
    exact w_X0_isToCome_14 hd C _ _ hK
theorem wd_998 : Cond.methodLink RX1 54 yX0_fact ∈ lw_good := mm_wd 998 (by decide +kernel) (by decide +kernel)
def F_X1_putInOrder_16 (h : MH) : Option MH := some h
set_option maxRecDepth 20000 in
set_option maxHeartbeats 4000000 in
theorem w_X1_putInOrder_16 {d : Nat} {V : Nat → List (Nat × Value) → List Value → MH → Prop} {hz : MH} (hd : 2 ≤ d) (C : mm_C d yX1_putInOrder cX1_putInOrder 4 none (.inr none) hz V) (h : MH) (hK : F_X1_putInOrder_16  h = some hz) : V 16 [] [] h := by
  unfold F_X1_putInOrder_16 at hK
  cases hK
  exact mm_vret C (pc := 16) rfl dX1_putInOrder_16 rfl rfl
def F_X1_putInOrder_68 (l0 : Option Nat) (l2 : Int32) (l3 : Int32) (h : MH) : Option MH := (gR h l0 1 0).bind fun v69 => (sI h v69 0 l3 l2).bind fun h74 => (gI h74 l0 1 1).bind fun v77 => (pI h74 l0 1 1 (v77 + (1 : Int32))).bind fun h82 => some h82
set_option maxRecDepth 20000 in
set_option maxHeartbeats 4000000 in
theorem w_X1_putInOrder_68 {d : Nat} {V : Nat → List (Nat × Value) → List Value → MH → Prop} {hz : MH} (hd : 2 ≤ d) (C : mm_C d yX1_putInOrder cX1_putInOrder 4 none (.inr none) hz V) (l0 : Option Nat) (l2 : Int32) (l3 : Int32) (h : MH) (hK : F_X1_putInOrder_68 l0 l2 l3 h = some hz) : V 68 [(0, va_rf l0), (2, .int l2), (3, .int l3)] [] h := by
  unfold F_X1_putInOrder_68 at hK
  refine mm_aload_n C (pc := 68) 0 dX1_putInOrder_68 rfl ?_
  replace hK := mm_bd hK; obtain ⟨v69, e69, hK⟩ := hK
  refine mm_getr C (pc := 69) (k := 0) inGX1 rfl (by decide) wd_218 dX1_putInOrder_69 e69 ?_
  refine mm_iload_n C (pc := 72) 2 dX1_putInOrder_72 rfl ?_
  refine mm_iload_n C (pc := 73) 1 dX1_putInOrder_73 rfl ?_
  replace hK := mm_bd hK; obtain ⟨h74, e74, hK⟩ := hK
  refine mm_iast C (pc := 74) dX1_putInOrder_74 e74 ?_
  refine mm_aload_n C (pc := 75) 0 dX1_putInOrder_75 rfl ?_
  refine mm_dup C (pc := 76) dX1_putInOrder_76 mm_crf ?_
  replace hK := mm_bd hK; obtain ⟨v77, e77, hK⟩ := hK
  refine mm_geti C (pc := 77) (k := 1) inGX1 rfl (by decide) wd_219 dX1_putInOrder_77 e77 ?_
  refine mm_iconst C (pc := 80) (v := (1 : Int32)) dX1_putInOrder_80 (by decide) ?_
  refine mm_iadd C (pc := 81) dX1_putInOrder_81 ?_
  replace hK := mm_bd hK; obtain ⟨h82, e82, hK⟩ := hK
  refine mm_puti C (pc := 82) (k := 1) false (fun z => by cases z) inGX1 tyX1 tyX1_ok nmX1 rfl (by decide) wd_219 rfl rfl dX1_putInOrder_82 e82 ?_
  cases hK
  exact mm_vret C (pc := 85) rfl dX1_putInOrder_85 rfl rfl
def F_X1_putInOrder_22 : Nat → Option Nat → Option Nat → Int32 → Int32 → MH → Option MH
  | 0 => fun _ _ _ _ _ => none
  | n + 1 => fun l0 l1 l2 l3 h => if l3 ≤ 0 then (F_X1_putInOrder_68 l0 l2 l3 h) else ((gR h l0 1 0).bind fun v28 => (aI h v28 0 (l3 - (1 : Int32))).bind fun v34 => mm_b2 (cV h l1 0 (F_X0_fact l1 v34 (2 : Int32) h)) fun v36 h36 => mm_b2 (cV h36 l1 0 (F_X0_fact l1 l2 (2 : Int32) h36)) fun v42 h42 => if v36 ≤ v42 then (F_X1_putInOrder_68 l0 l2 l3 h42) else ((gR h42 l0 1 0).bind fun v49 => (gR h42 l0 1 0).bind fun v54 => (aI h42 v54 0 (l3 - (1 : Int32))).bind fun v60 => (sI h42 v49 0 l3 v60).bind fun h61 => F_X1_putInOrder_22 n l0 l1 l2 (l3 + ((-1) : Int32)) h61))
set_option maxRecDepth 20000 in
set_option maxHeartbeats 4000000 in
theorem w_X1_putInOrder_22 {d : Nat} {V : Nat → List (Nat × Value) → List Value → MH → Prop} {hz : MH} (hd : 2 ≤ d) (C : mm_C d yX1_putInOrder cX1_putInOrder 4 none (.inr none) hz V) : ∀ (n : Nat) (l0 : Option Nat) (l1 : Option Nat) (l2 : Int32) (l3 : Int32) (h : MH), F_X1_putInOrder_22 n l0 l1 l2 l3 h = some hz → V 22 [(0, va_rf l0), (1, va_rf l1), (2, .int l2), (3, .int l3)] [] h := by
  intro n
  induction n with
  | zero => intro l0 l1 l2 l3 h hK; cases hK
  | succ n ih =>
    intro l0 l1 l2 l3 h hK
    replace hK : (if l3 ≤ 0 then (F_X1_putInOrder_68 l0 l2 l3 h) else ((gR h l0 1 0).bind fun v28 => (aI h v28 0 (l3 - (1 : Int32))).bind fun v34 => mm_b2 (cV h l1 0 (F_X0_fact l1 v34 (2 : Int32) h)) fun v36 h36 => mm_b2 (cV h36 l1 0 (F_X0_fact l1 l2 (2 : Int32) h36)) fun v42 h42 => if v36 ≤ v42 then (F_X1_putInOrder_68 l0 l2 l3 h42) else ((gR h42 l0 1 0).bind fun v49 => (gR h42 l0 1 0).bind fun v54 => (aI h42 v54 0 (l3 - (1 : Int32))).bind fun v60 => (sI h42 v49 0 l3 v60).bind fun h61 => F_X1_putInOrder_22 n l0 l1 l2 (l3 + ((-1) : Int32)) h61))) = some hz := hK
    refine mm_iload_n C (pc := 22) 3 dX1_putInOrder_22 rfl ?_
    refine mm_if_le C (pc := 23) (tgt := 68) dX1_putInOrder_23 (by decide) (fun hc => ?_) (fun hc => ?_)
    · replace hK := mm_ip hc hK
      refine mm_sub C [0, 2, 3] rfl ?_
      exact w_X1_putInOrder_68 hd C _ _ _ _ hK
    · replace hK := mm_in hc hK
      refine mm_aload_n C (pc := 26) 1 dX1_putInOrder_26 rfl ?_
      refine mm_aload_n C (pc := 27) 0 dX1_putInOrder_27 rfl ?_
      replace hK := mm_bd hK; obtain ⟨v28, e28, hK⟩ := hK
      refine mm_getr C (pc := 28) (k := 0) inGX1 rfl (by decide) wd_218 dX1_putInOrder_28 e28 ?_
      refine mm_iload_n C (pc := 31) 3 dX1_putInOrder_31 rfl ?_
      refine mm_iconst C (pc := 32) (v := (1 : Int32)) dX1_putInOrder_32 (by decide) ?_
      refine mm_isub C (pc := 33) dX1_putInOrder_33 ?_
      replace hK := mm_bd hK; obtain ⟨v34, e34, hK⟩ := hK
      refine mm_iald C (pc := 34) dX1_putInOrder_34 e34 ?_
      refine mm_iconst C (pc := 35) (v := (2 : Int32)) dX1_putInOrder_35 (by decide) ?_
      replace hK := mm_b2s hK; obtain ⟨v36, h36, e36, hK⟩ := hK
      obtain ⟨o36, e36⟩ := cV_some e36
      refine mm_callV C (pc := 36) (d1 := 1) (As := [.int v34, .int (2 : Int32)]) (st := []) (vk := (some (.int v36))) ((S_X0_fact (by omega)) e36) tT_X0_fact o36 (Or.inr ⟨_, rfl, rfl⟩) wd_998 wd_961 wd_962 (by omega) (by decide) rfl (by simp [mm_crf, mm_cti, mm_ctl]) rfl dX1_putInOrder_36 ?_
      show V _ _ (.int v36 :: _) _
      refine mm_aload_n C (pc := 39) 1 dX1_putInOrder_39 rfl ?_
      refine mm_iload_n C (pc := 40) 2 dX1_putInOrder_40 rfl ?_
      refine mm_iconst C (pc := 41) (v := (2 : Int32)) dX1_putInOrder_41 (by decide) ?_
      replace hK := mm_b2s hK; obtain ⟨v42, h42, e42, hK⟩ := hK
      obtain ⟨o42, e42⟩ := cV_some e42
      refine mm_callV C (pc := 42) (d1 := 1) (As := [.int l2, .int (2 : Int32)]) (st := [.int v36]) (vk := (some (.int v42))) ((S_X0_fact (by omega)) e42) tT_X0_fact o42 (Or.inr ⟨_, rfl, rfl⟩) wd_998 wd_961 wd_962 (by omega) (by decide) rfl (by simp [mm_crf, mm_cti, mm_ctl]) rfl dX1_putInOrder_42 ?_
      show V _ _ (.int v42 :: _) _
      refine mm_icmp_le C (pc := 45) (tgt := 68) dX1_putInOrder_45 (by decide) (fun hc => ?_) (fun hc => ?_)
      · replace hK := mm_ip hc hK
        refine mm_sub C [0, 2, 3] rfl ?_
        exact w_X1_putInOrder_68 hd C _ _ _ _ hK
      · replace hK := mm_in hc hK
        refine mm_aload_n C (pc := 48) 0 dX1_putInOrder_48 rfl ?_
        replace hK := mm_bd hK; obtain ⟨v49, e49, hK⟩ := hK
        refine mm_getr C (pc := 49) (k := 0) inGX1 rfl (by decide) wd_218 dX1_putInOrder_49 e49 ?_
        refine mm_iload_n C (pc := 52) 3 dX1_putInOrder_52 rfl ?_
        refine mm_aload_n C (pc := 53) 0 dX1_putInOrder_53 rfl ?_
        replace hK := mm_bd hK; obtain ⟨v54, e54, hK⟩ := hK
        refine mm_getr C (pc := 54) (k := 0) inGX1 rfl (by decide) wd_218 dX1_putInOrder_54 e54 ?_
        refine mm_iload_n C (pc := 57) 3 dX1_putInOrder_57 rfl ?_
        refine mm_iconst C (pc := 58) (v := (1 : Int32)) dX1_putInOrder_58 (by decide) ?_
        refine mm_isub C (pc := 59) dX1_putInOrder_59 ?_
        replace hK := mm_bd hK; obtain ⟨v60, e60, hK⟩ := hK
        refine mm_iald C (pc := 60) dX1_putInOrder_60 e60 ?_
        replace hK := mm_bd hK; obtain ⟨h61, e61, hK⟩ := hK
        refine mm_iast C (pc := 61) dX1_putInOrder_61 e61 ?_
        refine mm_iinc C (pc := 62) (v := (l3 + ((-1) : Int32))) (lv' := [(3, .int (l3 + ((-1) : Int32))), (0, va_rf l0), (1, va_rf l1), (2, .int l2)]) 3 dX1_putInOrder_62 rfl rfl (by decide) rfl ?_
        refine mm_goto C (pc := 65) (tgt := 22) dX1_putInOrder_65 (by decide) ?_
        refine mm_sub C [1, 2, 3, 0] rfl ?_
        exact ih _ _ _ _ _ hK
def F_X1_putInOrder (a0 : Option Nat) (a1 : Option Nat) (a2 : Int32) (h : MH) : Option MH := (gI h a0 1 1).bind fun v1 => if v1 < 0 then (F_X1_putInOrder_16 h) else ((gI h a0 1 1).bind fun v8 => if v8 < (10 : Int32) then ((gI h a0 1 1).bind fun v18 => F_X1_putInOrder_22 mm_N a0 a1 a2 v18 h) else (F_X1_putInOrder_16 h))
set_option maxRecDepth 20000 in
set_option maxHeartbeats 4000000 in
theorem S_X1_putInOrder {d : Nat} (hd : 2 ≤ d) {a0 : Option Nat} {a1 : Option Nat} {a2 : Int32} {h : MH} {hz : MH} (hK : F_X1_putInOrder a0 a1 a2 h = some hz) : mm_M yX1_putInOrder cX1_putInOrder 4 none d [va_rf a0, va_rf a1, .int a2] h (.inr none) hz := by
  refine mm_ofV (by decide +kernel) (by simp [lg_sl, mm_crf, mm_cti, mm_ctl]) (fun V C => ?_)
  rw [show lv_args 0 [va_rf a0, va_rf a1, .int a2] = [(0, va_rf a0), (1, va_rf a1), (2, .int a2)] by simp [lv_args, mm_crf, mm_cti, mm_ctl]]
  unfold F_X1_putInOrder at hK
  refine mm_aload_n C (pc := 0) 0 dX1_putInOrder_0 rfl ?_
  replace hK := mm_bd hK; obtain ⟨v1, e1, hK⟩ := hK
  refine mm_geti C (pc := 1) (k := 1) inGX1 rfl (by decide) wd_219 dX1_putInOrder_1 e1 ?_
  refine mm_if_lt C (pc := 4) (tgt := 16) dX1_putInOrder_4 (by decide) (fun hc => ?_) (fun hc => ?_)
  · replace hK := mm_ip hc hK
    refine mm_sub C [] rfl ?_
    exact w_X1_putInOrder_16 hd C _ hK
  · replace hK := mm_in hc hK
    refine mm_aload_n C (pc := 7) 0 dX1_putInOrder_7 rfl ?_
    replace hK := mm_bd hK; obtain ⟨v8, e8, hK⟩ := hK
    refine mm_geti C (pc := 8) (k := 1) inGX1 rfl (by decide) wd_219 dX1_putInOrder_8 e8 ?_
    refine mm_bipush C (pc := 11) (v := (10 : Int32)) dX1_putInOrder_11 (by decide) ?_
    refine mm_icmp_lt C (pc := 13) (tgt := 17) dX1_putInOrder_13 (by decide) (fun hc => ?_) (fun hc => ?_)
    · replace hK := mm_ip hc hK
      refine mm_aload_n C (pc := 17) 0 dX1_putInOrder_17 rfl ?_
      replace hK := mm_bd hK; obtain ⟨v18, e18, hK⟩ := hK
      refine mm_geti C (pc := 18) (k := 1) inGX1 rfl (by decide) wd_219 dX1_putInOrder_18 e18 ?_
      refine mm_istore_n C (pc := 21) (i := 3) (lv' := [(3, .int v18), (0, va_rf a0), (1, va_rf a1), (2, .int a2)]) dX1_putInOrder_21 rfl (by decide) rfl ?_
      refine mm_sub C [1, 2, 3, 0] rfl ?_
      exact w_X1_putInOrder_22 hd C _ _ _ _ _ _ hK
    · replace hK := mm_in hc hK
      refine mm_sub C [] rfl ?_
      exact w_X1_putInOrder_16 hd C _ hK
def F_X0_endOf (a0 : Option Nat) (a1 : Int32) (h : MH) : Option (Int32 × MH) := mm_b2 (cV h a0 0 (F_X0_fact a0 a1 (2 : Int32) h)) fun v3 h3 => mm_b2 (cV h3 a0 0 (F_X0_fact a0 a1 (3 : Int32) h3)) fun v9 h9 => some ((v3 + v9), h9)
set_option maxRecDepth 20000 in
set_option maxHeartbeats 4000000 in
theorem S_X0_endOf {d : Nat} (hd : 2 ≤ d) {a0 : Option Nat} {a1 : Int32} {h : MH} {r : Int32} {hz : MH} (hK : F_X0_endOf a0 a1 h = some (r, hz)) : mm_M yX0_endOf cX0_endOf 2 (some .int) d [va_rf a0, .int a1] h (.inr (some (.int r))) hz := by
  refine mm_ofV (by decide +kernel) (by simp [lg_sl, mm_crf, mm_cti, mm_ctl]) (fun V C => ?_)
  rw [show lv_args 0 [va_rf a0, .int a1] = [(0, va_rf a0), (1, .int a1)] by simp [lv_args, mm_crf, mm_cti, mm_ctl]]
  unfold F_X0_endOf at hK
  refine mm_aload_n C (pc := 0) 0 dX0_endOf_0 rfl ?_
  refine mm_iload_n C (pc := 1) 1 dX0_endOf_1 rfl ?_
  refine mm_iconst C (pc := 2) (v := (2 : Int32)) dX0_endOf_2 (by decide) ?_
  replace hK := mm_b2s hK; obtain ⟨v3, h3, e3, hK⟩ := hK
  obtain ⟨o3, e3⟩ := cV_some e3
  refine mm_callV C (pc := 3) (d1 := 1) (As := [.int a1, .int (2 : Int32)]) (st := []) (vk := (some (.int v3))) ((S_X0_fact (by omega)) e3) tT_X0_fact o3 (Or.inr ⟨_, rfl, rfl⟩) wd_960 wd_961 wd_962 (by omega) (by decide) rfl (by simp [mm_crf, mm_cti, mm_ctl]) rfl dX0_endOf_3 ?_
  show V _ _ (.int v3 :: _) _
  refine mm_aload_n C (pc := 6) 0 dX0_endOf_6 rfl ?_
  refine mm_iload_n C (pc := 7) 1 dX0_endOf_7 rfl ?_
  refine mm_iconst C (pc := 8) (v := (3 : Int32)) dX0_endOf_8 (by decide) ?_
  replace hK := mm_b2s hK; obtain ⟨v9, h9, e9, hK⟩ := hK
  obtain ⟨o9, e9⟩ := cV_some e9
  refine mm_callV C (pc := 9) (d1 := 1) (As := [.int a1, .int (3 : Int32)]) (st := [.int v3]) (vk := (some (.int v9))) ((S_X0_fact (by omega)) e9) tT_X0_fact o9 (Or.inr ⟨_, rfl, rfl⟩) wd_960 wd_961 wd_962 (by omega) (by decide) rfl (by simp [mm_crf, mm_cti, mm_ctl]) rfl dX0_endOf_9 ?_
  show V _ _ (.int v9 :: _) _
  refine mm_iadd C (pc := 12) dX0_endOf_12 ?_
  cases hK
  exact mm_iret C (pc := 13) rfl dX0_endOf_13 rfl rfl
def F_X1_isLine_15 (s0 : Int32) (h : MH) : Option (Int32 × MH) := rZ s0 h
set_option maxRecDepth 20000 in
set_option maxHeartbeats 4000000 in
theorem w_X1_isLine_15 {d : Nat} {V : Nat → List (Nat × Value) → List Value → MH → Prop} {r : Int32} {hz : MH} (hd : 1 ≤ d) (C : mm_C d yX1_isLine cX1_isLine 1 (some .boolean) (.inr (some (.int r))) hz V) (s0 : Int32) (h : MH) (hK : F_X1_isLine_15 s0 h = some (r, hz)) : V 15 [] [.int s0] h := by
  unfold F_X1_isLine_15 at hK
  replace hK := rZ_some hK; obtain ⟨hv15, hK⟩ := hK
  cases hK
  exact mm_zret C (pc := 15) rfl (mm_nrZ hv15) dX1_isLine_15 rfl rfl
def F_X1_isLine_14 (h : MH) : Option (Int32 × MH) := F_X1_isLine_15 (0 : Int32) h
set_option maxRecDepth 20000 in
set_option maxHeartbeats 4000000 in
theorem w_X1_isLine_14 {d : Nat} {V : Nat → List (Nat × Value) → List Value → MH → Prop} {r : Int32} {hz : MH} (hd : 1 ≤ d) (C : mm_C d yX1_isLine cX1_isLine 1 (some .boolean) (.inr (some (.int r))) hz V) (h : MH) (hK : F_X1_isLine_14  h = some (r, hz)) : V 14 [] [] h := by
  unfold F_X1_isLine_14 at hK
  refine mm_iconst C (pc := 14) (v := (0 : Int32)) dX1_isLine_14 (by decide) ?_
  exact w_X1_isLine_15 hd C _ _ hK
def F_X1_isLine (a0 : Int32) (h : MH) : Option (Int32 × MH) := if a0 < 0 then (F_X1_isLine_14 h) else (if (8 : Int32) ≤ a0 then (F_X1_isLine_14 h) else (F_X1_isLine_15 (1 : Int32) h))
set_option maxRecDepth 20000 in
set_option maxHeartbeats 4000000 in
theorem S_X1_isLine {d : Nat} (hd : 1 ≤ d) {a0 : Int32} {h : MH} {r : Int32} {hz : MH} (hK : F_X1_isLine a0 h = some (r, hz)) : mm_M yX1_isLine cX1_isLine 1 (some .boolean) d [.int a0] h (.inr (some (.int r))) hz := by
  refine mm_ofV (by decide +kernel) (by simp [lg_sl, mm_crf, mm_cti, mm_ctl]) (fun V C => ?_)
  rw [show lv_args 0 [.int a0] = [(0, .int a0)] by simp [lv_args, mm_crf, mm_cti, mm_ctl]]
  unfold F_X1_isLine at hK
  refine mm_iload_n C (pc := 0) 0 dX1_isLine_0 rfl ?_
  refine mm_if_lt C (pc := 1) (tgt := 14) dX1_isLine_1 (by decide) (fun hc => ?_) (fun hc => ?_)
  · replace hK := mm_ip hc hK
    refine mm_sub C [] rfl ?_
    exact w_X1_isLine_14 hd C _ hK
  · replace hK := mm_in hc hK
    refine mm_iload_n C (pc := 4) 0 dX1_isLine_4 rfl ?_
    refine mm_bipush C (pc := 5) (v := (8 : Int32)) dX1_isLine_5 (by decide) ?_
    refine mm_icmp_ge C (pc := 7) (tgt := 14) dX1_isLine_7 (by decide) (fun hc => ?_) (fun hc => ?_)
    · replace hK := mm_ip hc hK
      refine mm_sub C [] rfl ?_
      exact w_X1_isLine_14 hd C _ hK
    · replace hK := mm_in hc hK
      refine mm_iconst C (pc := 10) (v := (1 : Int32)) dX1_isLine_10 (by decide) ?_
      refine mm_goto C (pc := 11) (tgt := 15) dX1_isLine_11 (by decide) ?_
      refine mm_sub C [] rfl ?_
      exact w_X1_isLine_15 hd C _ _ hK
theorem wd_1010 : Cond.code yX1_isLine cX1_isLine 1 (some .boolean) ∈ lw_good := mm_wd 1010 (by decide +kernel) (by decide +kernel)
theorem tT_X1_isLine : mm_T yX1_isLine cX1_isLine 1 (some .boolean) 1 := ⟨wd_1010, wd_145, by decide +kernel, by decide +kernel, by decide +kernel, by decide +kernel⟩
theorem wd_1008 : Cond.methodLink RX1 76 yX1_isLine ∈ lw_good := mm_wd 1008 (by decide +kernel) (by decide +kernel)
theorem wd_1009 : Cond.static yX1_isLine ∈ lw_good := mm_wd 1009 (by decide +kernel) (by decide +kernel)
def F_X1_hold_47 (h : MH) : Option MH := some h
set_option maxRecDepth 20000 in
set_option maxHeartbeats 4000000 in
theorem w_X1_hold_47 {d : Nat} {V : Nat → List (Nat × Value) → List Value → MH → Prop} {hz : MH} (hd : 2 ≤ d) (C : mm_C d yX1_hold cX1_hold 5 none (.inr none) hz V) (h : MH) (hK : F_X1_hold_47  h = some hz) : V 47 [] [] h := by
  unfold F_X1_hold_47 at hK
  cases hK
  exact mm_vret C (pc := 47) rfl dX1_hold_47 rfl rfl
def F_X1_hold (a0 : Option Nat) (a1 : Int32) (a2 : Int32) (a3 : Int32) (a4 : Int32) (h : MH) : Option MH := mm_b2 (F_X1_isLine a1 h) fun v1 h1 => if v1 = 0 then (F_X1_hold_47 h1) else (mm_b2 (F_X1_isLine a2 h1) fun v8 h8 => if v8 = 0 then (F_X1_hold_47 h8) else (if a3 < 0 then (F_X1_hold_47 h8) else (if (3 : Int32) ≤ a3 then (F_X1_hold_47 h8) else ((gR h8 a0 1 2).bind fun v24 => (sI h8 v24 0 a1 a4).bind fun h30 => (gR h30 a0 1 2).bind fun v32 => (sI h30 v32 0 a2 a4).bind fun h38 => (gR h38 a0 1 3).bind fun v40 => (sI h38 v40 0 a3 a4).bind fun h46 => F_X1_hold_47 h46))))
set_option maxRecDepth 20000 in
set_option maxHeartbeats 4000000 in
theorem S_X1_hold {d : Nat} (hd : 2 ≤ d) {a0 : Option Nat} {a1 : Int32} {a2 : Int32} {a3 : Int32} {a4 : Int32} {h : MH} {hz : MH} (hK : F_X1_hold a0 a1 a2 a3 a4 h = some hz) : mm_M yX1_hold cX1_hold 5 none d [va_rf a0, .int a1, .int a2, .int a3, .int a4] h (.inr none) hz := by
  refine mm_ofV (by decide +kernel) (by simp [lg_sl, mm_crf, mm_cti, mm_ctl]) (fun V C => ?_)
  rw [show lv_args 0 [va_rf a0, .int a1, .int a2, .int a3, .int a4] = [(0, va_rf a0), (1, .int a1), (2, .int a2), (3, .int a3), (4, .int a4)] by simp [lv_args, mm_crf, mm_cti, mm_ctl]]
  unfold F_X1_hold at hK
  refine mm_iload_n C (pc := 0) 1 dX1_hold_0 rfl ?_
  replace hK := mm_b2s hK; obtain ⟨v1, h1, e1, hK⟩ := hK
  refine mm_callS C (pc := 1) (d1 := 1) (As := [.int a1]) (st := []) (vk := (some (.int v1))) ((S_X1_isLine (by omega)) e1) tT_X1_isLine wd_1008 wd_1009 (by omega) (by decide) rfl (by simp [mm_crf, mm_cti, mm_ctl]) rfl dX1_hold_1 ?_
  show V _ _ (.int v1 :: _) _
  refine mm_if_eq C (pc := 4) (tgt := 47) dX1_hold_4 (by decide) (fun hc => ?_) (fun hc => ?_)
  · replace hK := mm_ip hc hK
    refine mm_sub C [] rfl ?_
    exact w_X1_hold_47 hd C _ hK
  · replace hK := mm_in hc hK
    refine mm_iload_n C (pc := 7) 2 dX1_hold_7 rfl ?_
    replace hK := mm_b2s hK; obtain ⟨v8, h8, e8, hK⟩ := hK
    refine mm_callS C (pc := 8) (d1 := 1) (As := [.int a2]) (st := []) (vk := (some (.int v8))) ((S_X1_isLine (by omega)) e8) tT_X1_isLine wd_1008 wd_1009 (by omega) (by decide) rfl (by simp [mm_crf, mm_cti, mm_ctl]) rfl dX1_hold_8 ?_
    show V _ _ (.int v8 :: _) _
    refine mm_if_eq C (pc := 11) (tgt := 47) dX1_hold_11 (by decide) (fun hc => ?_) (fun hc => ?_)
    · replace hK := mm_ip hc hK
      refine mm_sub C [] rfl ?_
      exact w_X1_hold_47 hd C _ hK
    · replace hK := mm_in hc hK
      refine mm_iload_n C (pc := 14) 3 dX1_hold_14 rfl ?_
      refine mm_if_lt C (pc := 15) (tgt := 47) dX1_hold_15 (by decide) (fun hc => ?_) (fun hc => ?_)
      · replace hK := mm_ip hc hK
        refine mm_sub C [] rfl ?_
        exact w_X1_hold_47 hd C _ hK
      · replace hK := mm_in hc hK
        refine mm_iload_n C (pc := 18) 3 dX1_hold_18 rfl ?_
        refine mm_iconst C (pc := 19) (v := (3 : Int32)) dX1_hold_19 (by decide) ?_
        refine mm_icmp_ge C (pc := 20) (tgt := 47) dX1_hold_20 (by decide) (fun hc => ?_) (fun hc => ?_)
        · replace hK := mm_ip hc hK
          refine mm_sub C [] rfl ?_
          exact w_X1_hold_47 hd C _ hK
        · replace hK := mm_in hc hK
          refine mm_aload_n C (pc := 23) 0 dX1_hold_23 rfl ?_
          replace hK := mm_bd hK; obtain ⟨v24, e24, hK⟩ := hK
          refine mm_getr C (pc := 24) (k := 2) inGX1 rfl (by decide) wd_220 dX1_hold_24 e24 ?_
          refine mm_iload_n C (pc := 27) 1 dX1_hold_27 rfl ?_
          refine mm_iload C (pc := 28) 4 dX1_hold_28 rfl ?_
          replace hK := mm_bd hK; obtain ⟨h30, e30, hK⟩ := hK
          refine mm_iast C (pc := 30) dX1_hold_30 e30 ?_
          refine mm_aload_n C (pc := 31) 0 dX1_hold_31 rfl ?_
          replace hK := mm_bd hK; obtain ⟨v32, e32, hK⟩ := hK
          refine mm_getr C (pc := 32) (k := 2) inGX1 rfl (by decide) wd_220 dX1_hold_32 e32 ?_
          refine mm_iload_n C (pc := 35) 2 dX1_hold_35 rfl ?_
          refine mm_iload C (pc := 36) 4 dX1_hold_36 rfl ?_
          replace hK := mm_bd hK; obtain ⟨h38, e38, hK⟩ := hK
          refine mm_iast C (pc := 38) dX1_hold_38 e38 ?_
          refine mm_aload_n C (pc := 39) 0 dX1_hold_39 rfl ?_
          replace hK := mm_bd hK; obtain ⟨v40, e40, hK⟩ := hK
          refine mm_getr C (pc := 40) (k := 3) inGX1 rfl (by decide) wd_221 dX1_hold_40 e40 ?_
          refine mm_iload_n C (pc := 43) 3 dX1_hold_43 rfl ?_
          refine mm_iload C (pc := 44) 4 dX1_hold_44 rfl ?_
          replace hK := mm_bd hK; obtain ⟨h46, e46, hK⟩ := hK
          refine mm_iast C (pc := 46) dX1_hold_46 e46 ?_
          refine mm_sub C [] rfl ?_
          exact w_X1_hold_47 hd C _ hK
theorem wd_988 : Cond.methodLink RX1 31 yJ7_fill_53178 ∈ lw_good := mm_wd 988 (by decide +kernel) (by decide +kernel)
theorem wd_989 : Cond.methodLink RX1 37 yX0_calls ∈ lw_good := mm_wd 989 (by decide +kernel) (by decide +kernel)
theorem wd_1016 : Cond.methodLink RX1 70 arraycopyName ∈ lw_good := mm_wd 1016 (by decide +kernel) (by decide +kernel)
theorem wd_1011 : Cond.methodLink RX1 66 yX0_isShut ∈ lw_good := mm_wd 1011 (by decide +kernel) (by decide +kernel)
theorem wd_1015 : Cond.constant RX1 69 (1000000 : Int32) ∈ lw_good := mm_wd 1015 (by decide +kernel) (by decide +kernel)
theorem wd_993 : Cond.code yX0_isToCome cX0_isToCome 2 (some .boolean) ∈ lw_good := mm_wd 993 (by decide +kernel) (by decide +kernel)
theorem tT_X0_isToCome : mm_T yX0_isToCome cX0_isToCome 2 (some .boolean) 1 := ⟨wd_993, wd_150, by decide +kernel, by decide +kernel, by decide +kernel, by decide +kernel⟩
theorem wd_990 : Cond.methodLink RX1 43 yX0_isToCome ∈ lw_good := mm_wd 990 (by decide +kernel) (by decide +kernel)
theorem wd_991 : Cond.instanceMethod yX0_isToCome ∈ lw_good := mm_wd 991 (by decide +kernel) (by decide +kernel)
theorem wd_992 : Cond.selects RX0 yX0_isToCome yX0_isToCome ∈ lw_good := mm_wd 992 (by decide +kernel) (by decide +kernel)
theorem wd_999 : Cond.methodLink RX1 51 yX0_isOn ∈ lw_good := mm_wd 999 (by decide +kernel) (by decide +kernel)
theorem wd_1003 : Cond.code yX0_endOf cX0_endOf 2 (some .int) ∈ lw_good := mm_wd 1003 (by decide +kernel) (by decide +kernel)
theorem tT_X0_endOf : mm_T yX0_endOf cX0_endOf 2 (some .int) 1 := ⟨wd_1003, wd_150, by decide +kernel, by decide +kernel, by decide +kernel, by decide +kernel⟩
theorem wd_1000 : Cond.methodLink RX1 58 yX0_endOf ∈ lw_good := mm_wd 1000 (by decide +kernel) (by decide +kernel)
theorem wd_1001 : Cond.instanceMethod yX0_endOf ∈ lw_good := mm_wd 1001 (by decide +kernel) (by decide +kernel)
theorem wd_1002 : Cond.selects RX0 yX0_endOf yX0_endOf ∈ lw_good := mm_wd 1002 (by decide +kernel) (by decide +kernel)
theorem wd_1007 : Cond.code yX1_hold cX1_hold 5 none ∈ lw_good := mm_wd 1007 (by decide +kernel) (by decide +kernel)
theorem tT_X1_hold : mm_T yX1_hold cX1_hold 5 none 4 := ⟨wd_1007, wd_145, by decide +kernel, by decide +kernel, by decide +kernel, by decide +kernel⟩
theorem wd_1004 : Cond.methodLink RX1 62 yX1_hold ∈ lw_good := mm_wd 1004 (by decide +kernel) (by decide +kernel)
theorem wd_1006 : Cond.instanceMethod yX1_hold ∈ lw_good := mm_wd 1006 (by decide +kernel) (by decide +kernel)
theorem wd_9 : Cond.selects RX1 yX1_hold yX1_hold ∈ lw_good := mm_wd 9 (by decide +kernel) (by decide +kernel)
theorem wd_997 : Cond.code yX1_putInOrder cX1_putInOrder 4 none ∈ lw_good := mm_wd 997 (by decide +kernel) (by decide +kernel)
theorem tT_X1_putInOrder : mm_T yX1_putInOrder cX1_putInOrder 4 none 2 := ⟨wd_997, wd_145, by decide +kernel, by decide +kernel, by decide +kernel, by decide +kernel⟩
theorem wd_994 : Cond.methodLink RX1 47 yX1_putInOrder ∈ lw_good := mm_wd 994 (by decide +kernel) (by decide +kernel)
theorem wd_996 : Cond.instanceMethod yX1_putInOrder ∈ lw_good := mm_wd 996 (by decide +kernel) (by decide +kernel)
theorem wd_8 : Cond.selects RX1 yX1_putInOrder yX1_putInOrder ∈ lw_good := mm_wd 8 (by decide +kernel) (by decide +kernel)
def F_X1_start_114 (k92 : Option Nat → Option Nat → Int32 → MH → Option MH) (l0 : Option Nat) (l1 : Option Nat) (l2 : Int32) (h : MH) : Option MH := k92 l0 l1 (l2 + (1 : Int32)) h
set_option maxRecDepth 20000 in
set_option maxHeartbeats 4000000 in
theorem w_X1_start_114 {d : Nat} {V : Nat → List (Nat × Value) → List Value → MH → Prop} {hz : MH} {k92 : Option Nat → Option Nat → Int32 → MH → Option MH} (hd : 3 ≤ d) (C : mm_C d yX1_start cX1_start 3 none (.inr none) hz V) (q92 : ∀ (x0 : Option Nat) (x1 : Option Nat) (x2 : Int32) (h : MH), k92 x0 x1 x2 h = some hz → V 92 [(0, va_rf x0), (1, va_rf x1), (2, .int x2)] [] h) (l0 : Option Nat) (l1 : Option Nat) (l2 : Int32) (h : MH) (hK : F_X1_start_114 k92 l0 l1 l2 h = some hz) : V 114 [(0, va_rf l0), (1, va_rf l1), (2, .int l2)] [] h := by
  unfold F_X1_start_114 at hK
  refine mm_iinc C (pc := 114) (v := (l2 + (1 : Int32))) (lv' := [(2, .int (l2 + (1 : Int32))), (0, va_rf l0), (1, va_rf l1)]) 2 dX1_start_114 rfl rfl (by decide) (by simp [mm_crf]) ?_
  refine mm_goto C (pc := 117) (tgt := 92) dX1_start_117 (by decide) ?_
  refine mm_sub C [1, 2, 0] rfl ?_
  exact q92 _ _ _ _ hK
def F_X1_start_92 : Nat → Option Nat → Option Nat → Int32 → MH → Option MH
  | 0 => fun _ _ _ _ => none
  | n + 1 => fun l0 l1 l2 h => if (8 : Int32) ≤ l2 then ((gR h l0 1 2).bind fun v121 => (gR h l0 1 4).bind fun v126 => (cpI h v121 (0 : Int32) v126 (0 : Int32) (8 : Int32)).bind fun h132 => (gR h132 l0 1 3).bind fun v136 => (gR h132 l0 1 5).bind fun v141 => (cpI h132 v136 (0 : Int32) v141 (0 : Int32) (3 : Int32)).bind fun h146 => some h146) else (mm_b2 (cV h l1 0 (F_X0_isShut l1 l2 h)) fun v100 h100 => if v100 = 0 then (F_X1_start_114 (F_X1_start_92 n) l0 l1 l2 h100) else ((gR h100 l0 1 2).bind fun v107 => (sI h100 v107 0 l2 (1000000 : Int32)).bind fun h113 => F_X1_start_114 (F_X1_start_92 n) l0 l1 l2 h113))
set_option maxRecDepth 20000 in
set_option maxHeartbeats 4000000 in
theorem w_X1_start_92 {d : Nat} {V : Nat → List (Nat × Value) → List Value → MH → Prop} {hz : MH} (hd : 3 ≤ d) (C : mm_C d yX1_start cX1_start 3 none (.inr none) hz V) : ∀ (n : Nat) (l0 : Option Nat) (l1 : Option Nat) (l2 : Int32) (h : MH), F_X1_start_92 n l0 l1 l2 h = some hz → V 92 [(0, va_rf l0), (1, va_rf l1), (2, .int l2)] [] h := by
  intro n
  induction n with
  | zero => intro l0 l1 l2 h hK; cases hK
  | succ n ih =>
    intro l0 l1 l2 h hK
    replace hK : (if (8 : Int32) ≤ l2 then ((gR h l0 1 2).bind fun v121 => (gR h l0 1 4).bind fun v126 => (cpI h v121 (0 : Int32) v126 (0 : Int32) (8 : Int32)).bind fun h132 => (gR h132 l0 1 3).bind fun v136 => (gR h132 l0 1 5).bind fun v141 => (cpI h132 v136 (0 : Int32) v141 (0 : Int32) (3 : Int32)).bind fun h146 => some h146) else (mm_b2 (cV h l1 0 (F_X0_isShut l1 l2 h)) fun v100 h100 => if v100 = 0 then (F_X1_start_114 (F_X1_start_92 n) l0 l1 l2 h100) else ((gR h100 l0 1 2).bind fun v107 => (sI h100 v107 0 l2 (1000000 : Int32)).bind fun h113 => F_X1_start_114 (F_X1_start_92 n) l0 l1 l2 h113))) = some hz := hK
    refine mm_iload_n C (pc := 92) 2 dX1_start_92 rfl ?_
    refine mm_bipush C (pc := 93) (v := (8 : Int32)) dX1_start_93 (by decide) ?_
    refine mm_icmp_ge C (pc := 95) (tgt := 120) dX1_start_95 (by decide) (fun hc => ?_) (fun hc => ?_)
    · replace hK := mm_ip hc hK
      refine mm_aload_n C (pc := 120) 0 dX1_start_120 rfl ?_
      replace hK := mm_bd hK; obtain ⟨v121, e121, hK⟩ := hK
      refine mm_getr C (pc := 121) (k := 2) inGX1 rfl (by decide) wd_220 dX1_start_121 e121 ?_
      refine mm_iconst C (pc := 124) (v := (0 : Int32)) dX1_start_124 (by decide) ?_
      refine mm_aload_n C (pc := 125) 0 dX1_start_125 rfl ?_
      replace hK := mm_bd hK; obtain ⟨v126, e126, hK⟩ := hK
      refine mm_getr C (pc := 126) (k := 4) inGX1 rfl (by decide) wd_222 dX1_start_126 e126 ?_
      refine mm_iconst C (pc := 129) (v := (0 : Int32)) dX1_start_129 (by decide) ?_
      refine mm_bipush C (pc := 130) (v := (8 : Int32)) dX1_start_130 (by decide) ?_
      replace hK := mm_bd hK; obtain ⟨h132, e132, hK⟩ := hK
      refine mm_copy C (pc := 132) wd_1016 wd_554 wd_553 wd_166 (by omega) (by simp [mm_crf, mm_cti, mm_ctl]) dX1_start_132 e132 ?_
      refine mm_aload_n C (pc := 135) 0 dX1_start_135 rfl ?_
      replace hK := mm_bd hK; obtain ⟨v136, e136, hK⟩ := hK
      refine mm_getr C (pc := 136) (k := 3) inGX1 rfl (by decide) wd_221 dX1_start_136 e136 ?_
      refine mm_iconst C (pc := 139) (v := (0 : Int32)) dX1_start_139 (by decide) ?_
      refine mm_aload_n C (pc := 140) 0 dX1_start_140 rfl ?_
      replace hK := mm_bd hK; obtain ⟨v141, e141, hK⟩ := hK
      refine mm_getr C (pc := 141) (k := 5) inGX1 rfl (by decide) wd_223 dX1_start_141 e141 ?_
      refine mm_iconst C (pc := 144) (v := (0 : Int32)) dX1_start_144 (by decide) ?_
      refine mm_iconst C (pc := 145) (v := (3 : Int32)) dX1_start_145 (by decide) ?_
      replace hK := mm_bd hK; obtain ⟨h146, e146, hK⟩ := hK
      refine mm_copy C (pc := 146) wd_1016 wd_554 wd_553 wd_166 (by omega) (by simp [mm_crf, mm_cti, mm_ctl]) dX1_start_146 e146 ?_
      cases hK
      exact mm_vret C (pc := 149) rfl dX1_start_149 rfl rfl
    · replace hK := mm_in hc hK
      refine mm_aload_n C (pc := 98) 1 dX1_start_98 rfl ?_
      refine mm_iload_n C (pc := 99) 2 dX1_start_99 rfl ?_
      replace hK := mm_b2s hK; obtain ⟨v100, h100, e100, hK⟩ := hK
      obtain ⟨o100, e100⟩ := cV_some e100
      refine mm_callV C (pc := 100) (d1 := 2) (As := [.int l2]) (st := []) (vk := (some (.int v100))) ((S_X0_isShut (by omega)) e100) tT_X0_isShut o100 (Or.inr ⟨_, rfl, rfl⟩) wd_1011 wd_1012 wd_1013 (by omega) (by decide) rfl (by simp [mm_crf, mm_cti, mm_ctl]) rfl dX1_start_100 ?_
      show V _ _ (.int v100 :: _) _
      refine mm_if_eq C (pc := 103) (tgt := 114) dX1_start_103 (by decide) (fun hc => ?_) (fun hc => ?_)
      · replace hK := mm_ip hc hK
        exact w_X1_start_114 hd C (fun z0 z1 z2 z3 hK => ih z0 z1 z2 z3 hK) _ _ _ _ hK
      · replace hK := mm_in hc hK
        refine mm_aload_n C (pc := 106) 0 dX1_start_106 rfl ?_
        replace hK := mm_bd hK; obtain ⟨v107, e107, hK⟩ := hK
        refine mm_getr C (pc := 107) (k := 2) inGX1 rfl (by decide) wd_220 dX1_start_107 e107 ?_
        refine mm_iload_n C (pc := 110) 2 dX1_start_110 rfl ?_
        refine mm_ldc C (pc := 111) (v := (1000000 : Int32)) dX1_start_111 wd_1015 ?_
        replace hK := mm_bd hK; obtain ⟨h113, e113, hK⟩ := hK
        refine mm_iast C (pc := 113) dX1_start_113 e113 ?_
        exact w_X1_start_114 hd C (fun z0 z1 z2 z3 hK => ih z0 z1 z2 z3 hK) _ _ _ _ hK
def F_X1_start_84 (k23 : Option Nat → Option Nat → Int32 → MH → Option MH) (l0 : Option Nat) (l1 : Option Nat) (l2 : Int32) (h : MH) : Option MH := k23 l0 l1 (l2 + (1 : Int32)) h
set_option maxRecDepth 20000 in
set_option maxHeartbeats 4000000 in
theorem w_X1_start_84 {d : Nat} {V : Nat → List (Nat × Value) → List Value → MH → Prop} {hz : MH} {k23 : Option Nat → Option Nat → Int32 → MH → Option MH} (hd : 3 ≤ d) (C : mm_C d yX1_start cX1_start 3 none (.inr none) hz V) (q23 : ∀ (x0 : Option Nat) (x1 : Option Nat) (x2 : Int32) (h : MH), k23 x0 x1 x2 h = some hz → V 23 [(0, va_rf x0), (1, va_rf x1), (2, .int x2)] [] h) (l0 : Option Nat) (l1 : Option Nat) (l2 : Int32) (h : MH) (hK : F_X1_start_84 k23 l0 l1 l2 h = some hz) : V 84 [(0, va_rf l0), (1, va_rf l1), (2, .int l2)] [] h := by
  unfold F_X1_start_84 at hK
  refine mm_iinc C (pc := 84) (v := (l2 + (1 : Int32))) (lv' := [(2, .int (l2 + (1 : Int32))), (0, va_rf l0), (1, va_rf l1)]) 2 dX1_start_84 rfl rfl (by decide) (by simp [mm_crf]) ?_
  refine mm_goto C (pc := 87) (tgt := 23) dX1_start_87 (by decide) ?_
  refine mm_sub C [1, 2, 0] rfl ?_
  exact q23 _ _ _ _ hK
def F_X1_start_23 : Nat → Option Nat → Option Nat → Int32 → MH → Option MH
  | 0 => fun _ _ _ _ => none
  | n + 1 => fun l0 l1 l2 h => mm_b2 (cV h l1 0 (F_X0_calls l1 h)) fun v25 h25 => if v25 ≤ l2 then (F_X1_start_92 mm_N l0 l1 (0 : Int32) h25) else (mm_b2 (cV h25 l1 0 (F_X0_isToCome l1 l2 h25)) fun v33 h33 => if v33 = 0 then (mm_b2 (cV h33 l1 0 (F_X0_isOn l1 l2 h33)) fun v50 h50 => if v50 = 0 then (F_X1_start_84 (F_X1_start_23 n) l0 l1 l2 h50) else (mm_b2 (cV h50 l1 0 (F_X0_fact l1 l2 (0 : Int32) h50)) fun v60 h60 => mm_b2 (cV h60 l1 0 (F_X0_fact l1 l2 (5 : Int32) h60)) fun v66 h66 => mm_b2 (cV h66 l1 0 (F_X0_fact l1 l2 (6 : Int32) h66)) fun v73 h73 => mm_b2 (cV h73 l1 0 (F_X0_endOf l1 l2 h73)) fun v78 h78 => (cV h78 l0 1 (F_X1_hold l0 v60 v66 v73 v78 h78)).bind fun h81 => F_X1_start_84 (F_X1_start_23 n) l0 l1 l2 h81)) else ((cV h33 l0 1 (F_X1_putInOrder l0 l1 l2 h33)).bind fun h42 => F_X1_start_84 (F_X1_start_23 n) l0 l1 l2 h42))
set_option maxRecDepth 20000 in
set_option maxHeartbeats 4000000 in
theorem w_X1_start_23 {d : Nat} {V : Nat → List (Nat × Value) → List Value → MH → Prop} {hz : MH} (hd : 3 ≤ d) (C : mm_C d yX1_start cX1_start 3 none (.inr none) hz V) : ∀ (n : Nat) (l0 : Option Nat) (l1 : Option Nat) (l2 : Int32) (h : MH), F_X1_start_23 n l0 l1 l2 h = some hz → V 23 [(0, va_rf l0), (1, va_rf l1), (2, .int l2)] [] h := by
  intro n
  induction n with
  | zero => intro l0 l1 l2 h hK; cases hK
  | succ n ih =>
    intro l0 l1 l2 h hK
    replace hK : (mm_b2 (cV h l1 0 (F_X0_calls l1 h)) fun v25 h25 => if v25 ≤ l2 then (F_X1_start_92 mm_N l0 l1 (0 : Int32) h25) else (mm_b2 (cV h25 l1 0 (F_X0_isToCome l1 l2 h25)) fun v33 h33 => if v33 = 0 then (mm_b2 (cV h33 l1 0 (F_X0_isOn l1 l2 h33)) fun v50 h50 => if v50 = 0 then (F_X1_start_84 (F_X1_start_23 n) l0 l1 l2 h50) else (mm_b2 (cV h50 l1 0 (F_X0_fact l1 l2 (0 : Int32) h50)) fun v60 h60 => mm_b2 (cV h60 l1 0 (F_X0_fact l1 l2 (5 : Int32) h60)) fun v66 h66 => mm_b2 (cV h66 l1 0 (F_X0_fact l1 l2 (6 : Int32) h66)) fun v73 h73 => mm_b2 (cV h73 l1 0 (F_X0_endOf l1 l2 h73)) fun v78 h78 => (cV h78 l0 1 (F_X1_hold l0 v60 v66 v73 v78 h78)).bind fun h81 => F_X1_start_84 (F_X1_start_23 n) l0 l1 l2 h81)) else ((cV h33 l0 1 (F_X1_putInOrder l0 l1 l2 h33)).bind fun h42 => F_X1_start_84 (F_X1_start_23 n) l0 l1 l2 h42))) = some hz := hK
    refine mm_iload_n C (pc := 23) 2 dX1_start_23 rfl ?_
    refine mm_aload_n C (pc := 24) 1 dX1_start_24 rfl ?_
    replace hK := mm_b2s hK; obtain ⟨v25, h25, e25, hK⟩ := hK
    obtain ⟨o25, e25⟩ := cV_some e25
    refine mm_callV C (pc := 25) (d1 := 1) (As := []) (st := [.int l2]) (vk := (some (.int v25))) ((S_X0_calls (by omega)) e25) tT_X0_calls o25 (Or.inr ⟨_, rfl, rfl⟩) wd_989 wd_919 wd_920 (by omega) (by decide) rfl (by simp [mm_crf, mm_cti, mm_ctl]) rfl dX1_start_25 ?_
    show V _ _ (.int v25 :: _) _
    refine mm_icmp_ge C (pc := 28) (tgt := 90) dX1_start_28 (by decide) (fun hc => ?_) (fun hc => ?_)
    · replace hK := mm_ip hc hK
      refine mm_iconst C (pc := 90) (v := (0 : Int32)) dX1_start_90 (by decide) ?_
      refine mm_istore_n C (pc := 91) (i := 2) (lv' := [(2, .int (0 : Int32)), (0, va_rf l0), (1, va_rf l1)]) dX1_start_91 rfl (by decide) (by simp [mm_crf]) ?_
      refine mm_sub C [1, 2, 0] rfl ?_
      exact w_X1_start_92 hd C _ _ _ _ _ hK
    · replace hK := mm_in hc hK
      refine mm_aload_n C (pc := 31) 1 dX1_start_31 rfl ?_
      refine mm_iload_n C (pc := 32) 2 dX1_start_32 rfl ?_
      replace hK := mm_b2s hK; obtain ⟨v33, h33, e33, hK⟩ := hK
      obtain ⟨o33, e33⟩ := cV_some e33
      refine mm_callV C (pc := 33) (d1 := 2) (As := [.int l2]) (st := []) (vk := (some (.int v33))) ((S_X0_isToCome (by omega)) e33) tT_X0_isToCome o33 (Or.inr ⟨_, rfl, rfl⟩) wd_990 wd_991 wd_992 (by omega) (by decide) rfl (by simp [mm_crf, mm_cti, mm_ctl]) rfl dX1_start_33 ?_
      show V _ _ (.int v33 :: _) _
      refine mm_if_eq C (pc := 36) (tgt := 48) dX1_start_36 (by decide) (fun hc => ?_) (fun hc => ?_)
      · replace hK := mm_ip hc hK
        refine mm_aload_n C (pc := 48) 1 dX1_start_48 rfl ?_
        refine mm_iload_n C (pc := 49) 2 dX1_start_49 rfl ?_
        replace hK := mm_b2s hK; obtain ⟨v50, h50, e50, hK⟩ := hK
        obtain ⟨o50, e50⟩ := cV_some e50
        refine mm_callV C (pc := 50) (d1 := 2) (As := [.int l2]) (st := []) (vk := (some (.int v50))) ((S_X0_isOn (by omega)) e50) tT_X0_isOn o50 (Or.inr ⟨_, rfl, rfl⟩) wd_999 wd_957 wd_958 (by omega) (by decide) rfl (by simp [mm_crf, mm_cti, mm_ctl]) rfl dX1_start_50 ?_
        show V _ _ (.int v50 :: _) _
        refine mm_if_eq C (pc := 53) (tgt := 84) dX1_start_53 (by decide) (fun hc => ?_) (fun hc => ?_)
        · replace hK := mm_ip hc hK
          exact w_X1_start_84 hd C (fun z0 z1 z2 z3 hK => ih z0 z1 z2 z3 hK) _ _ _ _ hK
        · replace hK := mm_in hc hK
          refine mm_aload_n C (pc := 56) 0 dX1_start_56 rfl ?_
          refine mm_aload_n C (pc := 57) 1 dX1_start_57 rfl ?_
          refine mm_iload_n C (pc := 58) 2 dX1_start_58 rfl ?_
          refine mm_iconst C (pc := 59) (v := (0 : Int32)) dX1_start_59 (by decide) ?_
          replace hK := mm_b2s hK; obtain ⟨v60, h60, e60, hK⟩ := hK
          obtain ⟨o60, e60⟩ := cV_some e60
          refine mm_callV C (pc := 60) (d1 := 1) (As := [.int l2, .int (0 : Int32)]) (st := [va_rf l0]) (vk := (some (.int v60))) ((S_X0_fact (by omega)) e60) tT_X0_fact o60 (Or.inr ⟨_, rfl, rfl⟩) wd_998 wd_961 wd_962 (by omega) (by decide) rfl (by simp [mm_crf, mm_cti, mm_ctl]) rfl dX1_start_60 ?_
          show V _ _ (.int v60 :: _) _
          refine mm_aload_n C (pc := 63) 1 dX1_start_63 rfl ?_
          refine mm_iload_n C (pc := 64) 2 dX1_start_64 rfl ?_
          refine mm_iconst C (pc := 65) (v := (5 : Int32)) dX1_start_65 (by decide) ?_
          replace hK := mm_b2s hK; obtain ⟨v66, h66, e66, hK⟩ := hK
          obtain ⟨o66, e66⟩ := cV_some e66
          refine mm_callV C (pc := 66) (d1 := 1) (As := [.int l2, .int (5 : Int32)]) (st := [.int v60, va_rf l0]) (vk := (some (.int v66))) ((S_X0_fact (by omega)) e66) tT_X0_fact o66 (Or.inr ⟨_, rfl, rfl⟩) wd_998 wd_961 wd_962 (by omega) (by decide) rfl (by simp [mm_crf, mm_cti, mm_ctl]) rfl dX1_start_66 ?_
          show V _ _ (.int v66 :: _) _
          refine mm_aload_n C (pc := 69) 1 dX1_start_69 rfl ?_
          refine mm_iload_n C (pc := 70) 2 dX1_start_70 rfl ?_
          refine mm_bipush C (pc := 71) (v := (6 : Int32)) dX1_start_71 (by decide) ?_
          replace hK := mm_b2s hK; obtain ⟨v73, h73, e73, hK⟩ := hK
          obtain ⟨o73, e73⟩ := cV_some e73
          refine mm_callV C (pc := 73) (d1 := 1) (As := [.int l2, .int (6 : Int32)]) (st := [.int v66, .int v60, va_rf l0]) (vk := (some (.int v73))) ((S_X0_fact (by omega)) e73) tT_X0_fact o73 (Or.inr ⟨_, rfl, rfl⟩) wd_998 wd_961 wd_962 (by omega) (by decide) rfl (by simp [mm_crf, mm_cti, mm_ctl]) rfl dX1_start_73 ?_
          show V _ _ (.int v73 :: _) _
          refine mm_aload_n C (pc := 76) 1 dX1_start_76 rfl ?_
          refine mm_iload_n C (pc := 77) 2 dX1_start_77 rfl ?_
          replace hK := mm_b2s hK; obtain ⟨v78, h78, e78, hK⟩ := hK
          obtain ⟨o78, e78⟩ := cV_some e78
          refine mm_callV C (pc := 78) (d1 := 2) (As := [.int l2]) (st := [.int v73, .int v66, .int v60, va_rf l0]) (vk := (some (.int v78))) ((S_X0_endOf (by omega)) e78) tT_X0_endOf o78 (Or.inr ⟨_, rfl, rfl⟩) wd_1000 wd_1001 wd_1002 (by omega) (by decide) rfl (by simp [mm_crf, mm_cti, mm_ctl]) rfl dX1_start_78 ?_
          show V _ _ (.int v78 :: _) _
          replace hK := mm_bd hK; obtain ⟨h81, e81, hK⟩ := hK
          obtain ⟨o81, e81⟩ := cV_some e81
          refine mm_callV C (pc := 81) (d1 := 2) (As := [.int v60, .int v66, .int v73, .int v78]) (st := []) (vk := none) ((S_X1_hold (by omega)) e81) tT_X1_hold o81 (Or.inr ⟨_, rfl, rfl⟩) wd_1004 wd_1006 wd_9 (by omega) (by decide) rfl (by simp [mm_crf, mm_cti, mm_ctl]) rfl dX1_start_81 ?_
          show V _ _ [] _
          exact w_X1_start_84 hd C (fun z0 z1 z2 z3 hK => ih z0 z1 z2 z3 hK) _ _ _ _ hK
      · replace hK := mm_in hc hK
        refine mm_aload_n C (pc := 39) 0 dX1_start_39 rfl ?_
        refine mm_aload_n C (pc := 40) 1 dX1_start_40 rfl ?_
        refine mm_iload_n C (pc := 41) 2 dX1_start_41 rfl ?_
        replace hK := mm_bd hK; obtain ⟨h42, e42, hK⟩ := hK
        obtain ⟨o42, e42⟩ := cV_some e42
        refine mm_callV C (pc := 42) (d1 := 2) (As := [va_rf l1, .int l2]) (st := []) (vk := none) ((S_X1_putInOrder (by omega)) e42) tT_X1_putInOrder o42 (Or.inr ⟨_, rfl, rfl⟩) wd_994 wd_996 wd_8 (by omega) (by decide) rfl (by simp [mm_crf, mm_cti, mm_ctl]) rfl dX1_start_42 ?_
        show V _ _ [] _
        refine mm_goto C (pc := 45) (tgt := 84) dX1_start_45 (by decide) ?_
        exact w_X1_start_84 hd C (fun z0 z1 z2 z3 hK => ih z0 z1 z2 z3 hK) _ _ _ _ hK
def F_X1_start (a0 : Option Nat) (a1 : Option Nat) (h : MH) : Option MH := (pI h a0 1 1 (0 : Int32)).bind fun h2 => (gR h2 a0 1 2).bind fun v6 => (F_J7_fill_53178 v6 (0 : Int32) h2).bind fun h10 => (gR h10 a0 1 3).bind fun v14 => (F_J7_fill_53178 v14 (0 : Int32) h10).bind fun h18 => F_X1_start_23 mm_N a0 a1 (0 : Int32) h18
set_option maxRecDepth 20000 in
set_option maxHeartbeats 4000000 in
theorem S_X1_start {d : Nat} (hd : 3 ≤ d) {a0 : Option Nat} {a1 : Option Nat} {h : MH} {hz : MH} (hK : F_X1_start a0 a1 h = some hz) : mm_M yX1_start cX1_start 3 none d [va_rf a0, va_rf a1] h (.inr none) hz := by
  refine mm_ofV (by decide +kernel) (by simp [lg_sl, mm_crf, mm_cti, mm_ctl]) (fun V C => ?_)
  rw [show lv_args 0 [va_rf a0, va_rf a1] = [(0, va_rf a0), (1, va_rf a1)] by simp [lv_args, mm_crf, mm_cti, mm_ctl]]
  unfold F_X1_start at hK
  refine mm_aload_n C (pc := 0) 0 dX1_start_0 rfl ?_
  refine mm_iconst C (pc := 1) (v := (0 : Int32)) dX1_start_1 (by decide) ?_
  replace hK := mm_bd hK; obtain ⟨h2, e2, hK⟩ := hK
  refine mm_puti C (pc := 2) (k := 1) false (fun z => by cases z) inGX1 tyX1 tyX1_ok nmX1 rfl (by decide) wd_219 rfl rfl dX1_start_2 e2 ?_
  refine mm_aload_n C (pc := 5) 0 dX1_start_5 rfl ?_
  replace hK := mm_bd hK; obtain ⟨v6, e6, hK⟩ := hK
  refine mm_getr C (pc := 6) (k := 2) inGX1 rfl (by decide) wd_220 dX1_start_6 e6 ?_
  refine mm_iconst C (pc := 9) (v := (0 : Int32)) dX1_start_9 (by decide) ?_
  replace hK := mm_bd hK; obtain ⟨h10, e10, hK⟩ := hK
  refine mm_callS C (pc := 10) (d1 := 1) (As := [va_rf v6, .int (0 : Int32)]) (st := []) (vk := none) ((S_J7_fill_53178 (by omega)) e10) tT_J7_fill_53178 wd_988 wd_814 (by omega) (by decide) rfl (by simp [mm_crf, mm_cti, mm_ctl]) rfl dX1_start_10 ?_
  show V _ _ [] _
  refine mm_aload_n C (pc := 13) 0 dX1_start_13 rfl ?_
  replace hK := mm_bd hK; obtain ⟨v14, e14, hK⟩ := hK
  refine mm_getr C (pc := 14) (k := 3) inGX1 rfl (by decide) wd_221 dX1_start_14 e14 ?_
  refine mm_iconst C (pc := 17) (v := (0 : Int32)) dX1_start_17 (by decide) ?_
  replace hK := mm_bd hK; obtain ⟨h18, e18, hK⟩ := hK
  refine mm_callS C (pc := 18) (d1 := 1) (As := [va_rf v14, .int (0 : Int32)]) (st := []) (vk := none) ((S_J7_fill_53178 (by omega)) e18) tT_J7_fill_53178 wd_988 wd_814 (by omega) (by decide) rfl (by simp [mm_crf, mm_cti, mm_ctl]) rfl dX1_start_18 ?_
  show V _ _ [] _
  refine mm_iconst C (pc := 21) (v := (0 : Int32)) dX1_start_21 (by decide) ?_
  refine mm_istore_n C (pc := 22) (i := 2) (lv' := [(2, .int (0 : Int32)), (0, va_rf a0), (1, va_rf a1)]) dX1_start_22 rfl (by decide) (by simp [mm_crf]) ?_
  refine mm_sub C [1, 2, 0] rfl ?_
  exact w_X1_start_23 hd C _ _ _ _ _ hK
def F_X1_many (a0 : Option Nat) (h : MH) : Option (Int32 × MH) := (gI h a0 1 1).bind fun v1 => some (v1, h)
set_option maxRecDepth 20000 in
set_option maxHeartbeats 4000000 in
theorem S_X1_many {d : Nat} (hd : 1 ≤ d) {a0 : Option Nat} {h : MH} {r : Int32} {hz : MH} (hK : F_X1_many a0 h = some (r, hz)) : mm_M yX1_many cX1_many 1 (some .int) d [va_rf a0] h (.inr (some (.int r))) hz := by
  refine mm_ofV (by decide +kernel) (by simp [lg_sl, mm_crf, mm_cti, mm_ctl]) (fun V C => ?_)
  rw [show lv_args 0 [va_rf a0] = [(0, va_rf a0)] by simp [lv_args, mm_crf, mm_cti, mm_ctl]]
  unfold F_X1_many at hK
  refine mm_aload_n C (pc := 0) 0 dX1_many_0 rfl ?_
  replace hK := mm_bd hK; obtain ⟨v1, e1, hK⟩ := hK
  refine mm_geti C (pc := 1) (k := 1) inGX1 rfl (by decide) wd_219 dX1_many_1 e1 ?_
  cases hK
  exact mm_iret C (pc := 4) rfl dX1_many_4 rfl rfl
def F_X1_callAt_28 (s0 : Int32) (h : MH) : Option (Int32 × MH) := some (s0, h)
set_option maxRecDepth 20000 in
set_option maxHeartbeats 4000000 in
theorem w_X1_callAt_28 {d : Nat} {V : Nat → List (Nat × Value) → List Value → MH → Prop} {r : Int32} {hz : MH} (hd : 1 ≤ d) (C : mm_C d yX1_callAt cX1_callAt 2 (some .int) (.inr (some (.int r))) hz V) (s0 : Int32) (h : MH) (hK : F_X1_callAt_28 s0 h = some (r, hz)) : V 28 [] [.int s0] h := by
  unfold F_X1_callAt_28 at hK
  cases hK
  exact mm_iret C (pc := 28) rfl dX1_callAt_28 rfl rfl
def F_X1_callAt_27 (h : MH) : Option (Int32 × MH) := F_X1_callAt_28 ((-1) : Int32) h
set_option maxRecDepth 20000 in
set_option maxHeartbeats 4000000 in
theorem w_X1_callAt_27 {d : Nat} {V : Nat → List (Nat × Value) → List Value → MH → Prop} {r : Int32} {hz : MH} (hd : 1 ≤ d) (C : mm_C d yX1_callAt cX1_callAt 2 (some .int) (.inr (some (.int r))) hz V) (h : MH) (hK : F_X1_callAt_27  h = some (r, hz)) : V 27 [] [] h := by
  unfold F_X1_callAt_27 at hK
  refine mm_iconst C (pc := 27) (v := ((-1) : Int32)) dX1_callAt_27 (by decide) ?_
  exact w_X1_callAt_28 hd C _ _ hK
def F_X1_callAt (a0 : Option Nat) (a1 : Int32) (h : MH) : Option (Int32 × MH) := if a1 < 0 then (F_X1_callAt_27 h) else ((gI h a0 1 1).bind fun v6 => if v6 ≤ a1 then (F_X1_callAt_27 h) else (if (10 : Int32) ≤ a1 then (F_X1_callAt_27 h) else ((gR h a0 1 0).bind fun v19 => (aI h v19 0 a1).bind fun v23 => F_X1_callAt_28 v23 h)))
set_option maxRecDepth 20000 in
set_option maxHeartbeats 4000000 in
theorem S_X1_callAt {d : Nat} (hd : 1 ≤ d) {a0 : Option Nat} {a1 : Int32} {h : MH} {r : Int32} {hz : MH} (hK : F_X1_callAt a0 a1 h = some (r, hz)) : mm_M yX1_callAt cX1_callAt 2 (some .int) d [va_rf a0, .int a1] h (.inr (some (.int r))) hz := by
  refine mm_ofV (by decide +kernel) (by simp [lg_sl, mm_crf, mm_cti, mm_ctl]) (fun V C => ?_)
  rw [show lv_args 0 [va_rf a0, .int a1] = [(0, va_rf a0), (1, .int a1)] by simp [lv_args, mm_crf, mm_cti, mm_ctl]]
  unfold F_X1_callAt at hK
  refine mm_iload_n C (pc := 0) 1 dX1_callAt_0 rfl ?_
  refine mm_if_lt C (pc := 1) (tgt := 27) dX1_callAt_1 (by decide) (fun hc => ?_) (fun hc => ?_)
  · replace hK := mm_ip hc hK
    refine mm_sub C [] rfl ?_
    exact w_X1_callAt_27 hd C _ hK
  · replace hK := mm_in hc hK
    refine mm_iload_n C (pc := 4) 1 dX1_callAt_4 rfl ?_
    refine mm_aload_n C (pc := 5) 0 dX1_callAt_5 rfl ?_
    replace hK := mm_bd hK; obtain ⟨v6, e6, hK⟩ := hK
    refine mm_geti C (pc := 6) (k := 1) inGX1 rfl (by decide) wd_219 dX1_callAt_6 e6 ?_
    refine mm_icmp_ge C (pc := 9) (tgt := 27) dX1_callAt_9 (by decide) (fun hc => ?_) (fun hc => ?_)
    · replace hK := mm_ip hc hK
      refine mm_sub C [] rfl ?_
      exact w_X1_callAt_27 hd C _ hK
    · replace hK := mm_in hc hK
      refine mm_iload_n C (pc := 12) 1 dX1_callAt_12 rfl ?_
      refine mm_bipush C (pc := 13) (v := (10 : Int32)) dX1_callAt_13 (by decide) ?_
      refine mm_icmp_ge C (pc := 15) (tgt := 27) dX1_callAt_15 (by decide) (fun hc => ?_) (fun hc => ?_)
      · replace hK := mm_ip hc hK
        refine mm_sub C [] rfl ?_
        exact w_X1_callAt_27 hd C _ hK
      · replace hK := mm_in hc hK
        refine mm_aload_n C (pc := 18) 0 dX1_callAt_18 rfl ?_
        replace hK := mm_bd hK; obtain ⟨v19, e19, hK⟩ := hK
        refine mm_getr C (pc := 19) (k := 0) inGX1 rfl (by decide) wd_218 dX1_callAt_19 e19 ?_
        refine mm_iload_n C (pc := 22) 1 dX1_callAt_22 rfl ?_
        replace hK := mm_bd hK; obtain ⟨v23, e23, hK⟩ := hK
        refine mm_iald C (pc := 23) dX1_callAt_23 e23 ?_
        refine mm_goto C (pc := 24) (tgt := 28) dX1_callAt_24 (by decide) ?_
        refine mm_sub C [] rfl ?_
        exact w_X1_callAt_28 hd C _ _ hK
def F_X1_areFree_39 (s0 : Int32) (h : MH) : Option (Int32 × MH) := rZ s0 h
set_option maxRecDepth 20000 in
set_option maxHeartbeats 4000000 in
theorem w_X1_areFree_39 {d : Nat} {V : Nat → List (Nat × Value) → List Value → MH → Prop} {r : Int32} {hz : MH} (hd : 2 ≤ d) (C : mm_C d yX1_areFree cX1_areFree 4 (some .boolean) (.inr (some (.int r))) hz V) (s0 : Int32) (h : MH) (hK : F_X1_areFree_39 s0 h = some (r, hz)) : V 39 [] [.int s0] h := by
  unfold F_X1_areFree_39 at hK
  replace hK := rZ_some hK; obtain ⟨hv39, hK⟩ := hK
  cases hK
  exact mm_zret C (pc := 39) rfl (mm_nrZ hv39) dX1_areFree_39 rfl rfl
def F_X1_areFree_38 (h : MH) : Option (Int32 × MH) := F_X1_areFree_39 (0 : Int32) h
set_option maxRecDepth 20000 in
set_option maxHeartbeats 4000000 in
theorem w_X1_areFree_38 {d : Nat} {V : Nat → List (Nat × Value) → List Value → MH → Prop} {r : Int32} {hz : MH} (hd : 2 ≤ d) (C : mm_C d yX1_areFree cX1_areFree 4 (some .boolean) (.inr (some (.int r))) hz V) (h : MH) (hK : F_X1_areFree_38  h = some (r, hz)) : V 38 [] [] h := by
  unfold F_X1_areFree_38 at hK
  refine mm_iconst C (pc := 38) (v := (0 : Int32)) dX1_areFree_38 (by decide) ?_
  exact w_X1_areFree_39 hd C _ _ hK
def F_X1_areFree (a0 : Option Nat) (a1 : Int32) (a2 : Int32) (a3 : Int32) (h : MH) : Option (Int32 × MH) := mm_b2 (F_X1_isLine a1 h) fun v1 h1 => if v1 = 0 then (F_X1_areFree_38 h1) else (mm_b2 (F_X1_isLine a2 h1) fun v8 h8 => if v8 = 0 then (F_X1_areFree_38 h8) else ((gR h8 a0 1 2).bind fun v15 => (aI h8 v15 0 a1).bind fun v19 => if a3 < v19 then (F_X1_areFree_38 h8) else ((gR h8 a0 1 2).bind fun v25 => (aI h8 v25 0 a2).bind fun v29 => if a3 < v29 then (F_X1_areFree_38 h8) else (F_X1_areFree_39 (1 : Int32) h8))))
set_option maxRecDepth 20000 in
set_option maxHeartbeats 4000000 in
theorem S_X1_areFree {d : Nat} (hd : 2 ≤ d) {a0 : Option Nat} {a1 : Int32} {a2 : Int32} {a3 : Int32} {h : MH} {r : Int32} {hz : MH} (hK : F_X1_areFree a0 a1 a2 a3 h = some (r, hz)) : mm_M yX1_areFree cX1_areFree 4 (some .boolean) d [va_rf a0, .int a1, .int a2, .int a3] h (.inr (some (.int r))) hz := by
  refine mm_ofV (by decide +kernel) (by simp [lg_sl, mm_crf, mm_cti, mm_ctl]) (fun V C => ?_)
  rw [show lv_args 0 [va_rf a0, .int a1, .int a2, .int a3] = [(0, va_rf a0), (1, .int a1), (2, .int a2), (3, .int a3)] by simp [lv_args, mm_crf, mm_cti, mm_ctl]]
  unfold F_X1_areFree at hK
  refine mm_iload_n C (pc := 0) 1 dX1_areFree_0 rfl ?_
  replace hK := mm_b2s hK; obtain ⟨v1, h1, e1, hK⟩ := hK
  refine mm_callS C (pc := 1) (d1 := 1) (As := [.int a1]) (st := []) (vk := (some (.int v1))) ((S_X1_isLine (by omega)) e1) tT_X1_isLine wd_1008 wd_1009 (by omega) (by decide) rfl (by simp [mm_crf, mm_cti, mm_ctl]) rfl dX1_areFree_1 ?_
  show V _ _ (.int v1 :: _) _
  refine mm_if_eq C (pc := 4) (tgt := 38) dX1_areFree_4 (by decide) (fun hc => ?_) (fun hc => ?_)
  · replace hK := mm_ip hc hK
    refine mm_sub C [] rfl ?_
    exact w_X1_areFree_38 hd C _ hK
  · replace hK := mm_in hc hK
    refine mm_iload_n C (pc := 7) 2 dX1_areFree_7 rfl ?_
    replace hK := mm_b2s hK; obtain ⟨v8, h8, e8, hK⟩ := hK
    refine mm_callS C (pc := 8) (d1 := 1) (As := [.int a2]) (st := []) (vk := (some (.int v8))) ((S_X1_isLine (by omega)) e8) tT_X1_isLine wd_1008 wd_1009 (by omega) (by decide) rfl (by simp [mm_crf, mm_cti, mm_ctl]) rfl dX1_areFree_8 ?_
    show V _ _ (.int v8 :: _) _
    refine mm_if_eq C (pc := 11) (tgt := 38) dX1_areFree_11 (by decide) (fun hc => ?_) (fun hc => ?_)
    · replace hK := mm_ip hc hK
      refine mm_sub C [] rfl ?_
      exact w_X1_areFree_38 hd C _ hK
    · replace hK := mm_in hc hK
      refine mm_aload_n C (pc := 14) 0 dX1_areFree_14 rfl ?_
      replace hK := mm_bd hK; obtain ⟨v15, e15, hK⟩ := hK
      refine mm_getr C (pc := 15) (k := 2) inGX1 rfl (by decide) wd_220 dX1_areFree_15 e15 ?_
      refine mm_iload_n C (pc := 18) 1 dX1_areFree_18 rfl ?_
      replace hK := mm_bd hK; obtain ⟨v19, e19, hK⟩ := hK
      refine mm_iald C (pc := 19) dX1_areFree_19 e19 ?_
      refine mm_iload_n C (pc := 20) 3 dX1_areFree_20 rfl ?_
      refine mm_icmp_gt C (pc := 21) (tgt := 38) dX1_areFree_21 (by decide) (fun hc => ?_) (fun hc => ?_)
      · replace hK := mm_ip hc hK
        refine mm_sub C [] rfl ?_
        exact w_X1_areFree_38 hd C _ hK
      · replace hK := mm_in hc hK
        refine mm_aload_n C (pc := 24) 0 dX1_areFree_24 rfl ?_
        replace hK := mm_bd hK; obtain ⟨v25, e25, hK⟩ := hK
        refine mm_getr C (pc := 25) (k := 2) inGX1 rfl (by decide) wd_220 dX1_areFree_25 e25 ?_
        refine mm_iload_n C (pc := 28) 2 dX1_areFree_28 rfl ?_
        replace hK := mm_bd hK; obtain ⟨v29, e29, hK⟩ := hK
        refine mm_iald C (pc := 29) dX1_areFree_29 e29 ?_
        refine mm_iload_n C (pc := 30) 3 dX1_areFree_30 rfl ?_
        refine mm_icmp_gt C (pc := 31) (tgt := 38) dX1_areFree_31 (by decide) (fun hc => ?_) (fun hc => ?_)
        · replace hK := mm_ip hc hK
          refine mm_sub C [] rfl ?_
          exact w_X1_areFree_38 hd C _ hK
        · replace hK := mm_in hc hK
          refine mm_iconst C (pc := 34) (v := (1 : Int32)) dX1_areFree_34 (by decide) ?_
          refine mm_goto C (pc := 35) (tgt := 39) dX1_areFree_35 (by decide) ?_
          refine mm_sub C [] rfl ?_
          exact w_X1_areFree_39 hd C _ _ hK
def F_X1_isCordFree_24 (s0 : Int32) (h : MH) : Option (Int32 × MH) := rZ s0 h
set_option maxRecDepth 20000 in
set_option maxHeartbeats 4000000 in
theorem w_X1_isCordFree_24 {d : Nat} {V : Nat → List (Nat × Value) → List Value → MH → Prop} {r : Int32} {hz : MH} (hd : 1 ≤ d) (C : mm_C d yX1_isCordFree cX1_isCordFree 3 (some .boolean) (.inr (some (.int r))) hz V) (s0 : Int32) (h : MH) (hK : F_X1_isCordFree_24 s0 h = some (r, hz)) : V 24 [] [.int s0] h := by
  unfold F_X1_isCordFree_24 at hK
  replace hK := rZ_some hK; obtain ⟨hv24, hK⟩ := hK
  cases hK
  exact mm_zret C (pc := 24) rfl (mm_nrZ hv24) dX1_isCordFree_24 rfl rfl
def F_X1_isCordFree_23 (h : MH) : Option (Int32 × MH) := F_X1_isCordFree_24 (0 : Int32) h
set_option maxRecDepth 20000 in
set_option maxHeartbeats 4000000 in
theorem w_X1_isCordFree_23 {d : Nat} {V : Nat → List (Nat × Value) → List Value → MH → Prop} {r : Int32} {hz : MH} (hd : 1 ≤ d) (C : mm_C d yX1_isCordFree cX1_isCordFree 3 (some .boolean) (.inr (some (.int r))) hz V) (h : MH) (hK : F_X1_isCordFree_23  h = some (r, hz)) : V 23 [] [] h := by
  unfold F_X1_isCordFree_23 at hK
  refine mm_iconst C (pc := 23) (v := (0 : Int32)) dX1_isCordFree_23 (by decide) ?_
  exact w_X1_isCordFree_24 hd C _ _ hK
def F_X1_isCordFree (a0 : Option Nat) (a1 : Int32) (a2 : Int32) (h : MH) : Option (Int32 × MH) := if a1 < 0 then (F_X1_isCordFree_23 h) else (if (3 : Int32) ≤ a1 then (F_X1_isCordFree_23 h) else ((gR h a0 1 3).bind fun v10 => (aI h v10 0 a1).bind fun v14 => if a2 < v14 then (F_X1_isCordFree_23 h) else (F_X1_isCordFree_24 (1 : Int32) h)))
set_option maxRecDepth 20000 in
set_option maxHeartbeats 4000000 in
theorem S_X1_isCordFree {d : Nat} (hd : 1 ≤ d) {a0 : Option Nat} {a1 : Int32} {a2 : Int32} {h : MH} {r : Int32} {hz : MH} (hK : F_X1_isCordFree a0 a1 a2 h = some (r, hz)) : mm_M yX1_isCordFree cX1_isCordFree 3 (some .boolean) d [va_rf a0, .int a1, .int a2] h (.inr (some (.int r))) hz := by
  refine mm_ofV (by decide +kernel) (by simp [lg_sl, mm_crf, mm_cti, mm_ctl]) (fun V C => ?_)
  rw [show lv_args 0 [va_rf a0, .int a1, .int a2] = [(0, va_rf a0), (1, .int a1), (2, .int a2)] by simp [lv_args, mm_crf, mm_cti, mm_ctl]]
  unfold F_X1_isCordFree at hK
  refine mm_iload_n C (pc := 0) 1 dX1_isCordFree_0 rfl ?_
  refine mm_if_lt C (pc := 1) (tgt := 23) dX1_isCordFree_1 (by decide) (fun hc => ?_) (fun hc => ?_)
  · replace hK := mm_ip hc hK
    refine mm_sub C [] rfl ?_
    exact w_X1_isCordFree_23 hd C _ hK
  · replace hK := mm_in hc hK
    refine mm_iload_n C (pc := 4) 1 dX1_isCordFree_4 rfl ?_
    refine mm_iconst C (pc := 5) (v := (3 : Int32)) dX1_isCordFree_5 (by decide) ?_
    refine mm_icmp_ge C (pc := 6) (tgt := 23) dX1_isCordFree_6 (by decide) (fun hc => ?_) (fun hc => ?_)
    · replace hK := mm_ip hc hK
      refine mm_sub C [] rfl ?_
      exact w_X1_isCordFree_23 hd C _ hK
    · replace hK := mm_in hc hK
      refine mm_aload_n C (pc := 9) 0 dX1_isCordFree_9 rfl ?_
      replace hK := mm_bd hK; obtain ⟨v10, e10, hK⟩ := hK
      refine mm_getr C (pc := 10) (k := 3) inGX1 rfl (by decide) wd_221 dX1_isCordFree_10 e10 ?_
      refine mm_iload_n C (pc := 13) 1 dX1_isCordFree_13 rfl ?_
      replace hK := mm_bd hK; obtain ⟨v14, e14, hK⟩ := hK
      refine mm_iald C (pc := 14) dX1_isCordFree_14 e14 ?_
      refine mm_iload_n C (pc := 15) 2 dX1_isCordFree_15 rfl ?_
      refine mm_icmp_gt C (pc := 16) (tgt := 23) dX1_isCordFree_16 (by decide) (fun hc => ?_) (fun hc => ?_)
      · replace hK := mm_ip hc hK
        refine mm_sub C [] rfl ?_
        exact w_X1_isCordFree_23 hd C _ hK
      · replace hK := mm_in hc hK
        refine mm_iconst C (pc := 19) (v := (1 : Int32)) dX1_isCordFree_19 (by decide) ?_
        refine mm_goto C (pc := 20) (tgt := 24) dX1_isCordFree_20 (by decide) ?_
        refine mm_sub C [] rfl ?_
        exact w_X1_isCordFree_24 hd C _ _ hK
def F_X8_reaches_37 (s0 : Int32) (h : MH) : Option (Int32 × MH) := rZ s0 h
set_option maxRecDepth 20000 in
set_option maxHeartbeats 4000000 in
theorem w_X8_reaches_37 {d : Nat} {V : Nat → List (Nat × Value) → List Value → MH → Prop} {r : Int32} {hz : MH} (hd : 1 ≤ d) (C : mm_C d yX8_reaches cX8_reaches 5 (some .boolean) (.inr (some (.int r))) hz V) (s0 : Int32) (h : MH) (hK : F_X8_reaches_37 s0 h = some (r, hz)) : V 37 [] [.int s0] h := by
  unfold F_X8_reaches_37 at hK
  replace hK := rZ_some hK; obtain ⟨hv37, hK⟩ := hK
  cases hK
  exact mm_zret C (pc := 37) rfl (mm_nrZ hv37) dX8_reaches_37 rfl rfl
def F_X8_reaches_36 (h : MH) : Option (Int32 × MH) := F_X8_reaches_37 (0 : Int32) h
set_option maxRecDepth 20000 in
set_option maxHeartbeats 4000000 in
theorem w_X8_reaches_36 {d : Nat} {V : Nat → List (Nat × Value) → List Value → MH → Prop} {r : Int32} {hz : MH} (hd : 1 ≤ d) (C : mm_C d yX8_reaches cX8_reaches 5 (some .boolean) (.inr (some (.int r))) hz V) (h : MH) (hK : F_X8_reaches_36  h = some (r, hz)) : V 36 [] [] h := by
  unfold F_X8_reaches_36 at hK
  refine mm_iconst C (pc := 36) (v := (0 : Int32)) dX8_reaches_36 (by decide) ?_
  exact w_X8_reaches_37 hd C _ _ hK
def F_X8_reaches (a0 : Option Nat) (a1 : Int32) (a2 : Int32) (a3 : Int32) (h : MH) : Option (Int32 × MH) := if a1 < 0 then (F_X8_reaches_36 h) else (if (3 : Int32) ≤ a1 then (F_X8_reaches_36 h) else ((gR h a0 8 3).bind fun v19 => (aI h v19 0 a1).bind fun v23 => if (v23 &&& (((1 : Int32) <<< (a2 &&& 31)) ||| ((1 : Int32) <<< (a3 &&& 31)))) = (((1 : Int32) <<< (a2 &&& 31)) ||| ((1 : Int32) <<< (a3 &&& 31))) then (F_X8_reaches_37 (1 : Int32) h) else (F_X8_reaches_36 h)))
set_option maxRecDepth 20000 in
set_option maxHeartbeats 4000000 in
theorem S_X8_reaches {d : Nat} (hd : 1 ≤ d) {a0 : Option Nat} {a1 : Int32} {a2 : Int32} {a3 : Int32} {h : MH} {r : Int32} {hz : MH} (hK : F_X8_reaches a0 a1 a2 a3 h = some (r, hz)) : mm_M yX8_reaches cX8_reaches 5 (some .boolean) d [va_rf a0, .int a1, .int a2, .int a3] h (.inr (some (.int r))) hz := by
  refine mm_ofV (by decide +kernel) (by simp [lg_sl, mm_crf, mm_cti, mm_ctl]) (fun V C => ?_)
  rw [show lv_args 0 [va_rf a0, .int a1, .int a2, .int a3] = [(0, va_rf a0), (1, .int a1), (2, .int a2), (3, .int a3)] by simp [lv_args, mm_crf, mm_cti, mm_ctl]]
  unfold F_X8_reaches at hK
  refine mm_iconst C (pc := 0) (v := (1 : Int32)) dX8_reaches_0 (by decide) ?_
  refine mm_iload_n C (pc := 1) 2 dX8_reaches_1 rfl ?_
  refine mm_ishl C (pc := 2) dX8_reaches_2 ?_
  refine mm_iconst C (pc := 3) (v := (1 : Int32)) dX8_reaches_3 (by decide) ?_
  refine mm_iload_n C (pc := 4) 3 dX8_reaches_4 rfl ?_
  refine mm_ishl C (pc := 5) dX8_reaches_5 ?_
  refine mm_ior C (pc := 6) dX8_reaches_6 ?_
  refine mm_istore C (pc := 7) (i := 4) (lv' := [(4, .int (((1 : Int32) <<< (a2 &&& 31)) ||| ((1 : Int32) <<< (a3 &&& 31)))), (0, va_rf a0), (1, .int a1), (2, .int a2), (3, .int a3)]) dX8_reaches_7 (by decide) rfl ?_
  refine mm_iload_n C (pc := 9) 2 dX8_reaches_9 rfl ?_
  refine mm_if_lt C (pc := 10) (tgt := 36) dX8_reaches_10 (by decide) (fun hc => ?_) (fun hc => ?_)
  · replace hK := mm_ip hc hK
    refine mm_sub C [] rfl ?_
    exact w_X8_reaches_36 hd C _ hK
  · replace hK := mm_in hc hK
    refine mm_iload_n C (pc := 13) 2 dX8_reaches_13 rfl ?_
    refine mm_iconst C (pc := 14) (v := (3 : Int32)) dX8_reaches_14 (by decide) ?_
    refine mm_icmp_ge C (pc := 15) (tgt := 36) dX8_reaches_15 (by decide) (fun hc => ?_) (fun hc => ?_)
    · replace hK := mm_ip hc hK
      refine mm_sub C [] rfl ?_
      exact w_X8_reaches_36 hd C _ hK
    · replace hK := mm_in hc hK
      refine mm_aload_n C (pc := 18) 1 dX8_reaches_18 rfl ?_
      replace hK := mm_bd hK; obtain ⟨v19, e19, hK⟩ := hK
      refine mm_getr C (pc := 19) (k := 3) inGX8 rfl (by decide) wd_783 dX8_reaches_19 e19 ?_
      refine mm_iload_n C (pc := 22) 2 dX8_reaches_22 rfl ?_
      replace hK := mm_bd hK; obtain ⟨v23, e23, hK⟩ := hK
      refine mm_iald C (pc := 23) dX8_reaches_23 e23 ?_
      refine mm_iload C (pc := 24) 0 dX8_reaches_24 rfl ?_
      refine mm_iand C (pc := 26) dX8_reaches_26 ?_
      refine mm_iload C (pc := 27) 0 dX8_reaches_27 rfl ?_
      refine mm_icmp_ne C (pc := 29) (tgt := 36) dX8_reaches_29 (by decide) (fun hc => ?_) (fun hc => ?_)
      · replace hK := mm_in hc hK
        refine mm_sub C [] rfl ?_
        exact w_X8_reaches_36 hd C _ hK
      · replace hK := mm_ip hc hK
        refine mm_iconst C (pc := 32) (v := (1 : Int32)) dX8_reaches_32 (by decide) ?_
        refine mm_goto C (pc := 33) (tgt := 37) dX8_reaches_33 (by decide) ?_
        refine mm_sub C [] rfl ?_
        exact w_X8_reaches_37 hd C _ _ hK
theorem wd_1046 : Cond.code yX1_areFree cX1_areFree 4 (some .boolean) ∈ lw_good := mm_wd 1046 (by decide +kernel) (by decide +kernel)
theorem tT_X1_areFree : mm_T yX1_areFree cX1_areFree 4 (some .boolean) 3 := ⟨wd_1046, wd_145, by decide +kernel, by decide +kernel, by decide +kernel, by decide +kernel⟩
theorem wd_1043 : Cond.methodLink RX1 79 yX1_areFree ∈ lw_good := mm_wd 1043 (by decide +kernel) (by decide +kernel)
theorem wd_1044 : Cond.instanceMethod yX1_areFree ∈ lw_good := mm_wd 1044 (by decide +kernel) (by decide +kernel)
theorem wd_1045 : Cond.selects RX1 yX1_areFree yX1_areFree ∈ lw_good := mm_wd 1045 (by decide +kernel) (by decide +kernel)
theorem wd_780 : Cond.fieldLink RX1 83 "CrossedLines$Plan" "cords" "I" ∈ lw_good := mm_wd 780 (by decide +kernel) (by decide +kernel)
theorem wd_1050 : Cond.code yX1_isCordFree cX1_isCordFree 3 (some .boolean) ∈ lw_good := mm_wd 1050 (by decide +kernel) (by decide +kernel)
theorem tT_X1_isCordFree : mm_T yX1_isCordFree cX1_isCordFree 3 (some .boolean) 2 := ⟨wd_1050, wd_145, by decide +kernel, by decide +kernel, by decide +kernel, by decide +kernel⟩
theorem wd_1047 : Cond.methodLink RX1 88 yX1_isCordFree ∈ lw_good := mm_wd 1047 (by decide +kernel) (by decide +kernel)
theorem wd_1048 : Cond.instanceMethod yX1_isCordFree ∈ lw_good := mm_wd 1048 (by decide +kernel) (by decide +kernel)
theorem wd_1049 : Cond.selects RX1 yX1_isCordFree yX1_isCordFree ∈ lw_good := mm_wd 1049 (by decide +kernel) (by decide +kernel)
theorem wd_1054 : Cond.code yX8_reaches cX8_reaches 5 (some .boolean) ∈ lw_good := mm_wd 1054 (by decide +kernel) (by decide +kernel)
theorem tT_X8_reaches : mm_T yX8_reaches cX8_reaches 5 (some .boolean) 3 := ⟨wd_1054, wd_151, by decide +kernel, by decide +kernel, by decide +kernel, by decide +kernel⟩
theorem wd_1051 : Cond.methodLink RX1 92 yX8_reaches ∈ lw_good := mm_wd 1051 (by decide +kernel) (by decide +kernel)
theorem wd_1052 : Cond.instanceMethod yX8_reaches ∈ lw_good := mm_wd 1052 (by decide +kernel) (by decide +kernel)
theorem wd_1053 : Cond.selects RX8 yX8_reaches yX8_reaches ∈ lw_good := mm_wd 1053 (by decide +kernel) (by decide +kernel)
def F_X1_takeCord_16 (h : MH) : Option (Int32 × MH) := some (((-1) : Int32), h)
set_option maxRecDepth 20000 in
set_option maxHeartbeats 4000000 in
theorem w_X1_takeCord_16 {d : Nat} {V : Nat → List (Nat × Value) → List Value → MH → Prop} {r : Int32} {hz : MH} (hd : 3 ≤ d) (C : mm_C d yX1_takeCord cX1_takeCord 7 (some .int) (.inr (some (.int r))) hz V) (h : MH) (hK : F_X1_takeCord_16  h = some (r, hz)) : V 16 [] [] h := by
  unfold F_X1_takeCord_16 at hK
  refine mm_iconst C (pc := 16) (v := ((-1) : Int32)) dX1_takeCord_16 (by decide) ?_
  cases hK
  exact mm_iret C (pc := 17) rfl dX1_takeCord_17 rfl rfl
def F_X1_takeCord_65 (k21 : Option Nat → Option Nat → Int32 → Int32 → Int32 → Int32 → Int32 → MH → Option (Int32 × MH)) (l0 : Option Nat) (l1 : Option Nat) (l2 : Int32) (l3 : Int32) (l4 : Int32) (l5 : Int32) (l6 : Int32) (h : MH) : Option (Int32 × MH) := k21 l0 l1 l2 l3 l4 l5 (l6 + (1 : Int32)) h
set_option maxRecDepth 20000 in
set_option maxHeartbeats 4000000 in
theorem w_X1_takeCord_65 {d : Nat} {V : Nat → List (Nat × Value) → List Value → MH → Prop} {r : Int32} {hz : MH} {k21 : Option Nat → Option Nat → Int32 → Int32 → Int32 → Int32 → Int32 → MH → Option (Int32 × MH)} (hd : 3 ≤ d) (C : mm_C d yX1_takeCord cX1_takeCord 7 (some .int) (.inr (some (.int r))) hz V) (q21 : ∀ (x0 : Option Nat) (x1 : Option Nat) (x2 : Int32) (x3 : Int32) (x4 : Int32) (x5 : Int32) (x6 : Int32) (h : MH), k21 x0 x1 x2 x3 x4 x5 x6 h = some (r, hz) → V 21 [(0, va_rf x0), (1, va_rf x1), (2, .int x2), (3, .int x3), (4, .int x4), (5, .int x5), (6, .int x6)] [] h) (l0 : Option Nat) (l1 : Option Nat) (l2 : Int32) (l3 : Int32) (l4 : Int32) (l5 : Int32) (l6 : Int32) (h : MH) (hK : F_X1_takeCord_65 k21 l0 l1 l2 l3 l4 l5 l6 h = some (r, hz)) : V 65 [(0, va_rf l0), (1, va_rf l1), (2, .int l2), (3, .int l3), (4, .int l4), (5, .int l5), (6, .int l6)] [] h := by
  unfold F_X1_takeCord_65 at hK
  refine mm_iinc C (pc := 65) (v := (l6 + (1 : Int32))) (lv' := [(6, .int (l6 + (1 : Int32))), (0, va_rf l0), (1, va_rf l1), (2, .int l2), (3, .int l3), (4, .int l4), (5, .int l5)]) 6 dX1_takeCord_65 rfl rfl (by decide) rfl ?_
  refine mm_goto C (pc := 68) (tgt := 21) dX1_takeCord_68 (by decide) ?_
  refine mm_sub C [1, 2, 3, 4, 5, 6, 0] rfl ?_
  exact q21 _ _ _ _ _ _ _ _ hK
def F_X1_takeCord_21 : Nat → Option Nat → Option Nat → Int32 → Int32 → Int32 → Int32 → Int32 → MH → Option (Int32 × MH)
  | 0 => fun _ _ _ _ _ _ _ _ => none
  | n + 1 => fun l0 l1 l2 l3 l4 l5 l6 h => (gI h l1 8 1).bind fun v24 => if v24 ≤ l6 then (some (((-1) : Int32), h)) else (mm_b2 (cV h l0 1 (F_X1_isCordFree l0 l6 l4 h)) fun v35 h35 => if v35 = 0 then (F_X1_takeCord_65 (F_X1_takeCord_21 n) l0 l1 l2 l3 l4 l5 l6 h35) else (mm_b2 (cV h35 l1 8 (F_X8_reaches l1 l6 l2 l3 h35)) fun v46 h46 => if v46 = 0 then (F_X1_takeCord_65 (F_X1_takeCord_21 n) l0 l1 l2 l3 l4 l5 l6 h46) else ((cV h46 l0 1 (F_X1_hold l0 l2 l3 l6 l5 h46)).bind fun h59 => some (l6, h59))))
set_option maxRecDepth 20000 in
set_option maxHeartbeats 4000000 in
theorem w_X1_takeCord_21 {d : Nat} {V : Nat → List (Nat × Value) → List Value → MH → Prop} {r : Int32} {hz : MH} (hd : 3 ≤ d) (C : mm_C d yX1_takeCord cX1_takeCord 7 (some .int) (.inr (some (.int r))) hz V) : ∀ (n : Nat) (l0 : Option Nat) (l1 : Option Nat) (l2 : Int32) (l3 : Int32) (l4 : Int32) (l5 : Int32) (l6 : Int32) (h : MH), F_X1_takeCord_21 n l0 l1 l2 l3 l4 l5 l6 h = some (r, hz) → V 21 [(0, va_rf l0), (1, va_rf l1), (2, .int l2), (3, .int l3), (4, .int l4), (5, .int l5), (6, .int l6)] [] h := by
  intro n
  induction n with
  | zero => intro l0 l1 l2 l3 l4 l5 l6 h hK; cases hK
  | succ n ih =>
    intro l0 l1 l2 l3 l4 l5 l6 h hK
    replace hK : ((gI h l1 8 1).bind fun v24 => if v24 ≤ l6 then (some (((-1) : Int32), h)) else (mm_b2 (cV h l0 1 (F_X1_isCordFree l0 l6 l4 h)) fun v35 h35 => if v35 = 0 then (F_X1_takeCord_65 (F_X1_takeCord_21 n) l0 l1 l2 l3 l4 l5 l6 h35) else (mm_b2 (cV h35 l1 8 (F_X8_reaches l1 l6 l2 l3 h35)) fun v46 h46 => if v46 = 0 then (F_X1_takeCord_65 (F_X1_takeCord_21 n) l0 l1 l2 l3 l4 l5 l6 h46) else ((cV h46 l0 1 (F_X1_hold l0 l2 l3 l6 l5 h46)).bind fun h59 => some (l6, h59))))) = some (r, hz) := hK
    refine mm_iload C (pc := 21) 6 dX1_takeCord_21 rfl ?_
    refine mm_aload_n C (pc := 23) 1 dX1_takeCord_23 rfl ?_
    replace hK := mm_bd hK; obtain ⟨v24, e24, hK⟩ := hK
    refine mm_geti C (pc := 24) (k := 1) inGX8 rfl (by decide) wd_780 dX1_takeCord_24 e24 ?_
    refine mm_icmp_ge C (pc := 27) (tgt := 71) dX1_takeCord_27 (by decide) (fun hc => ?_) (fun hc => ?_)
    · replace hK := mm_ip hc hK
      refine mm_iconst C (pc := 71) (v := ((-1) : Int32)) dX1_takeCord_71 (by decide) ?_
      cases hK
      exact mm_iret C (pc := 72) rfl dX1_takeCord_72 rfl rfl
    · replace hK := mm_in hc hK
      refine mm_aload_n C (pc := 30) 0 dX1_takeCord_30 rfl ?_
      refine mm_iload C (pc := 31) 6 dX1_takeCord_31 rfl ?_
      refine mm_iload C (pc := 33) 4 dX1_takeCord_33 rfl ?_
      replace hK := mm_b2s hK; obtain ⟨v35, h35, e35, hK⟩ := hK
      obtain ⟨o35, e35⟩ := cV_some e35
      refine mm_callV C (pc := 35) (d1 := 1) (As := [.int l6, .int l4]) (st := []) (vk := (some (.int v35))) ((S_X1_isCordFree (by omega)) e35) tT_X1_isCordFree o35 (Or.inr ⟨_, rfl, rfl⟩) wd_1047 wd_1048 wd_1049 (by omega) (by decide) rfl (by simp [mm_crf, mm_cti, mm_ctl]) rfl dX1_takeCord_35 ?_
      show V _ _ (.int v35 :: _) _
      refine mm_if_eq C (pc := 38) (tgt := 65) dX1_takeCord_38 (by decide) (fun hc => ?_) (fun hc => ?_)
      · replace hK := mm_ip hc hK
        exact w_X1_takeCord_65 hd C (fun z0 z1 z2 z3 z4 z5 z6 z7 hK => ih z0 z1 z2 z3 z4 z5 z6 z7 hK) _ _ _ _ _ _ _ _ hK
      · replace hK := mm_in hc hK
        refine mm_aload_n C (pc := 41) 1 dX1_takeCord_41 rfl ?_
        refine mm_iload C (pc := 42) 6 dX1_takeCord_42 rfl ?_
        refine mm_iload_n C (pc := 44) 2 dX1_takeCord_44 rfl ?_
        refine mm_iload_n C (pc := 45) 3 dX1_takeCord_45 rfl ?_
        replace hK := mm_b2s hK; obtain ⟨v46, h46, e46, hK⟩ := hK
        obtain ⟨o46, e46⟩ := cV_some e46
        refine mm_callV C (pc := 46) (d1 := 1) (As := [.int l6, .int l2, .int l3]) (st := []) (vk := (some (.int v46))) ((S_X8_reaches (by omega)) e46) tT_X8_reaches o46 (Or.inr ⟨_, rfl, rfl⟩) wd_1051 wd_1052 wd_1053 (by omega) (by decide) rfl (by simp [mm_crf, mm_cti, mm_ctl]) rfl dX1_takeCord_46 ?_
        show V _ _ (.int v46 :: _) _
        refine mm_if_eq C (pc := 49) (tgt := 65) dX1_takeCord_49 (by decide) (fun hc => ?_) (fun hc => ?_)
        · replace hK := mm_ip hc hK
          exact w_X1_takeCord_65 hd C (fun z0 z1 z2 z3 z4 z5 z6 z7 hK => ih z0 z1 z2 z3 z4 z5 z6 z7 hK) _ _ _ _ _ _ _ _ hK
        · replace hK := mm_in hc hK
          refine mm_aload_n C (pc := 52) 0 dX1_takeCord_52 rfl ?_
          refine mm_iload_n C (pc := 53) 2 dX1_takeCord_53 rfl ?_
          refine mm_iload_n C (pc := 54) 3 dX1_takeCord_54 rfl ?_
          refine mm_iload C (pc := 55) 6 dX1_takeCord_55 rfl ?_
          refine mm_iload C (pc := 57) 5 dX1_takeCord_57 rfl ?_
          replace hK := mm_bd hK; obtain ⟨h59, e59, hK⟩ := hK
          obtain ⟨o59, e59⟩ := cV_some e59
          refine mm_callV C (pc := 59) (d1 := 2) (As := [.int l2, .int l3, .int l6, .int l5]) (st := []) (vk := none) ((S_X1_hold (by omega)) e59) tT_X1_hold o59 (Or.inr ⟨_, rfl, rfl⟩) wd_1004 wd_1006 wd_9 (by omega) (by decide) rfl (by simp [mm_crf, mm_cti, mm_ctl]) rfl dX1_takeCord_59 ?_
          show V _ _ [] _
          refine mm_iload C (pc := 62) 6 dX1_takeCord_62 rfl ?_
          cases hK
          exact mm_iret C (pc := 64) rfl dX1_takeCord_64 rfl rfl
def F_X1_takeCord (a0 : Option Nat) (a1 : Option Nat) (a2 : Int32) (a3 : Int32) (a4 : Int32) (a5 : Int32) (h : MH) : Option (Int32 × MH) := if a2 = a3 then (F_X1_takeCord_16 h) else (mm_b2 (cV h a0 1 (F_X1_areFree a0 a2 a3 a4 h)) fun v10 h10 => if v10 = 0 then (F_X1_takeCord_16 h10) else (F_X1_takeCord_21 mm_N a0 a1 a2 a3 a4 a5 (0 : Int32) h10))
set_option maxRecDepth 20000 in
set_option maxHeartbeats 4000000 in
theorem S_X1_takeCord {d : Nat} (hd : 3 ≤ d) {a0 : Option Nat} {a1 : Option Nat} {a2 : Int32} {a3 : Int32} {a4 : Int32} {a5 : Int32} {h : MH} {r : Int32} {hz : MH} (hK : F_X1_takeCord a0 a1 a2 a3 a4 a5 h = some (r, hz)) : mm_M yX1_takeCord cX1_takeCord 7 (some .int) d [va_rf a0, va_rf a1, .int a2, .int a3, .int a4, .int a5] h (.inr (some (.int r))) hz := by
  refine mm_ofV (by decide +kernel) (by simp [lg_sl, mm_crf, mm_cti, mm_ctl]) (fun V C => ?_)
  rw [show lv_args 0 [va_rf a0, va_rf a1, .int a2, .int a3, .int a4, .int a5] = [(0, va_rf a0), (1, va_rf a1), (2, .int a2), (3, .int a3), (4, .int a4), (5, .int a5)] by simp [lv_args, mm_crf, mm_cti, mm_ctl]]
  unfold F_X1_takeCord at hK
  refine mm_iload_n C (pc := 0) 2 dX1_takeCord_0 rfl ?_
  refine mm_iload_n C (pc := 1) 3 dX1_takeCord_1 rfl ?_
  refine mm_icmp_eq C (pc := 2) (tgt := 16) dX1_takeCord_2 (by decide) (fun hc => ?_) (fun hc => ?_)
  · replace hK := mm_ip hc hK
    refine mm_sub C [] rfl ?_
    exact w_X1_takeCord_16 hd C _ hK
  · replace hK := mm_in hc hK
    refine mm_aload_n C (pc := 5) 0 dX1_takeCord_5 rfl ?_
    refine mm_iload_n C (pc := 6) 2 dX1_takeCord_6 rfl ?_
    refine mm_iload_n C (pc := 7) 3 dX1_takeCord_7 rfl ?_
    refine mm_iload C (pc := 8) 4 dX1_takeCord_8 rfl ?_
    replace hK := mm_b2s hK; obtain ⟨v10, h10, e10, hK⟩ := hK
    obtain ⟨o10, e10⟩ := cV_some e10
    refine mm_callV C (pc := 10) (d1 := 2) (As := [.int a2, .int a3, .int a4]) (st := []) (vk := (some (.int v10))) ((S_X1_areFree (by omega)) e10) tT_X1_areFree o10 (Or.inr ⟨_, rfl, rfl⟩) wd_1043 wd_1044 wd_1045 (by omega) (by decide) rfl (by simp [mm_crf, mm_cti, mm_ctl]) rfl dX1_takeCord_10 ?_
    show V _ _ (.int v10 :: _) _
    refine mm_if_ne C (pc := 13) (tgt := 18) dX1_takeCord_13 (by decide) (fun hc => ?_) (fun hc => ?_)
    · replace hK := mm_in hc hK
      refine mm_iconst C (pc := 18) (v := (0 : Int32)) dX1_takeCord_18 (by decide) ?_
      refine mm_istore C (pc := 19) (i := 6) (lv' := [(6, .int (0 : Int32)), (0, va_rf a0), (1, va_rf a1), (2, .int a2), (3, .int a3), (4, .int a4), (5, .int a5)]) dX1_takeCord_19 (by decide) rfl ?_
      refine mm_sub C [1, 2, 3, 4, 5, 6, 0] rfl ?_
      exact w_X1_takeCord_21 hd C _ _ _ _ _ _ _ _ _ hK
    · replace hK := mm_ip hc hK
      refine mm_sub C [] rfl ?_
      exact w_X1_takeCord_16 hd C _ hK
def F_X5_setLiking (a0 : Option Nat) (a1 : Int32) (a2 : Int32) (h : MH) : Option MH := (gR h a0 5 1).bind fun v1 => (sI h v1 0 (4 : Int32) a1).bind fun h6 => (gR h6 a0 5 1).bind fun v8 => (sI h6 v8 0 (5 : Int32) a2).bind fun h13 => some h13
set_option maxRecDepth 20000 in
set_option maxHeartbeats 4000000 in
theorem S_X5_setLiking {d : Nat} (hd : 1 ≤ d) {a0 : Option Nat} {a1 : Int32} {a2 : Int32} {h : MH} {hz : MH} (hK : F_X5_setLiking a0 a1 a2 h = some hz) : mm_M yX5_setLiking cX5_setLiking 3 none d [va_rf a0, .int a1, .int a2] h (.inr none) hz := by
  refine mm_ofV (by decide +kernel) (by simp [lg_sl, mm_crf, mm_cti, mm_ctl]) (fun V C => ?_)
  rw [show lv_args 0 [va_rf a0, .int a1, .int a2] = [(0, va_rf a0), (1, .int a1), (2, .int a2)] by simp [lv_args, mm_crf, mm_cti, mm_ctl]]
  unfold F_X5_setLiking at hK
  refine mm_aload_n C (pc := 0) 0 dX5_setLiking_0 rfl ?_
  replace hK := mm_bd hK; obtain ⟨v1, e1, hK⟩ := hK
  refine mm_getr C (pc := 1) (k := 1) inGX5 rfl (by decide) wd_748 dX5_setLiking_1 e1 ?_
  refine mm_iconst C (pc := 4) (v := (4 : Int32)) dX5_setLiking_4 (by decide) ?_
  refine mm_iload_n C (pc := 5) 1 dX5_setLiking_5 rfl ?_
  replace hK := mm_bd hK; obtain ⟨h6, e6, hK⟩ := hK
  refine mm_iast C (pc := 6) dX5_setLiking_6 e6 ?_
  refine mm_aload_n C (pc := 7) 0 dX5_setLiking_7 rfl ?_
  replace hK := mm_bd hK; obtain ⟨v8, e8, hK⟩ := hK
  refine mm_getr C (pc := 8) (k := 1) inGX5 rfl (by decide) wd_748 dX5_setLiking_8 e8 ?_
  refine mm_iconst C (pc := 11) (v := (5 : Int32)) dX5_setLiking_11 (by decide) ?_
  refine mm_iload_n C (pc := 12) 2 dX5_setLiking_12 rfl ?_
  replace hK := mm_bd hK; obtain ⟨h13, e13, hK⟩ := hK
  refine mm_iast C (pc := 13) dX5_setLiking_13 e13 ?_
  cases hK
  exact mm_vret C (pc := 14) rfl dX5_setLiking_14 rfl rfl
theorem wd_1063 : Cond.methodLink RX8 70 yX8_liking ∈ lw_good := mm_wd 1063 (by decide +kernel) (by decide +kernel)
theorem wd_1070 : Cond.code yX5_setLiking cX5_setLiking 3 none ∈ lw_good := mm_wd 1070 (by decide +kernel) (by decide +kernel)
theorem tT_X5_setLiking : mm_T yX5_setLiking cX5_setLiking 3 none 2 := ⟨wd_1070, wd_153, by decide +kernel, by decide +kernel, by decide +kernel, by decide +kernel⟩
theorem wd_1067 : Cond.methodLink RX8 72 yX5_setLiking ∈ lw_good := mm_wd 1067 (by decide +kernel) (by decide +kernel)
theorem wd_1068 : Cond.instanceMethod yX5_setLiking ∈ lw_good := mm_wd 1068 (by decide +kernel) (by decide +kernel)
theorem wd_1069 : Cond.selects RX5 yX5_setLiking yX5_setLiking ∈ lw_good := mm_wd 1069 (by decide +kernel) (by decide +kernel)
def F_X8_isWedding_58 (s0 : Int32) (h : MH) : Option (Int32 × MH) := rZ s0 h
set_option maxRecDepth 20000 in
set_option maxHeartbeats 4000000 in
theorem w_X8_isWedding_58 {d : Nat} {V : Nat → List (Nat × Value) → List Value → MH → Prop} {r : Int32} {hz : MH} (hd : 3 ≤ d) (C : mm_C d yX8_isWedding cX8_isWedding 5 (some .boolean) (.inr (some (.int r))) hz V) (s0 : Int32) (h : MH) (hK : F_X8_isWedding_58 s0 h = some (r, hz)) : V 58 [] [.int s0] h := by
  unfold F_X8_isWedding_58 at hK
  replace hK := rZ_some hK; obtain ⟨hv58, hK⟩ := hK
  cases hK
  exact mm_zret C (pc := 58) rfl (mm_nrZ hv58) dX8_isWedding_58 rfl rfl
def F_X8_isWedding (a0 : Option Nat) (a1 : Int32) (a2 : Int32) (a3 : Int32) (a4 : Int32) (h : MH) : Option (Int32 × MH) := (gR h a0 8 6).bind fun v1 => if v1 = none then (rZ (0 : Int32) h) else ((gR h a0 8 6).bind fun v10 => (cV h v10 5 (F_X5_setVariables v10 a1 a2 (a3 - a3 / (60 : Int32) * (60 : Int32)) a4 h)).bind fun h21 => (gR h21 a0 8 6).bind fun v25 => mm_b2 (cV h21 a0 8 (F_X8_liking a0 a1 a2 h21)) fun v31 h31 => mm_b2 (cV h31 a0 8 (F_X8_liking a0 a2 a1 h31)) fun v37 h37 => (cV h37 v25 5 (F_X5_setLiking v25 v31 v37 h37)).bind fun h40 => (gR h40 a0 8 6).bind fun v44 => mm_b2 (cV h40 v44 5 (F_X5_value v44 h40)) fun v47 h47 => if v47 = 0 then (F_X8_isWedding_58 (0 : Int32) h47) else (F_X8_isWedding_58 (1 : Int32) h47))
set_option maxRecDepth 20000 in
set_option maxHeartbeats 4000000 in
theorem S_X8_isWedding {d : Nat} (hd : 3 ≤ d) {a0 : Option Nat} {a1 : Int32} {a2 : Int32} {a3 : Int32} {a4 : Int32} {h : MH} {r : Int32} {hz : MH} (hK : F_X8_isWedding a0 a1 a2 a3 a4 h = some (r, hz)) : mm_M yX8_isWedding cX8_isWedding 5 (some .boolean) d [va_rf a0, .int a1, .int a2, .int a3, .int a4] h (.inr (some (.int r))) hz := by
  refine mm_ofV (by decide +kernel) (by simp [lg_sl, mm_crf, mm_cti, mm_ctl]) (fun V C => ?_)
  rw [show lv_args 0 [va_rf a0, .int a1, .int a2, .int a3, .int a4] = [(0, va_rf a0), (1, .int a1), (2, .int a2), (3, .int a3), (4, .int a4)] by simp [lv_args, mm_crf, mm_cti, mm_ctl]]
  unfold F_X8_isWedding at hK
  refine mm_aload_n C (pc := 0) 0 dX8_isWedding_0 rfl ?_
  replace hK := mm_bd hK; obtain ⟨v1, e1, hK⟩ := hK
  refine mm_getr C (pc := 1) (k := 6) inGX8 rfl (by decide) wd_787 dX8_isWedding_1 e1 ?_
  refine mm_ifnonnull C (pc := 4) (tgt := 9) dX8_isWedding_4 (by decide) (fun hc => ?_) (fun hc => ?_)
  · replace hK := mm_in hc hK
    refine mm_aload_n C (pc := 9) 0 dX8_isWedding_9 rfl ?_
    replace hK := mm_bd hK; obtain ⟨v10, e10, hK⟩ := hK
    refine mm_getr C (pc := 10) (k := 6) inGX8 rfl (by decide) wd_787 dX8_isWedding_10 e10 ?_
    refine mm_iload_n C (pc := 13) 1 dX8_isWedding_13 rfl ?_
    refine mm_iload_n C (pc := 14) 2 dX8_isWedding_14 rfl ?_
    refine mm_iload_n C (pc := 15) 3 dX8_isWedding_15 rfl ?_
    refine mm_bipush C (pc := 16) (v := (60 : Int32)) dX8_isWedding_16 (by decide) ?_
    refine mm_irem C (pc := 18) dX8_isWedding_18 (by decide) ?_
    refine mm_iload C (pc := 19) 4 dX8_isWedding_19 rfl ?_
    replace hK := mm_bd hK; obtain ⟨h21, e21, hK⟩ := hK
    obtain ⟨o21, e21⟩ := cV_some e21
    refine mm_callV C (pc := 21) (d1 := 1) (As := [.int a1, .int a2, .int (a3 - a3 / (60 : Int32) * (60 : Int32)), .int a4]) (st := []) (vk := none) ((S_X5_setVariables (by omega)) e21) tT_X5_setVariables o21 (Or.inr ⟨_, rfl, rfl⟩) wd_754 wd_755 wd_756 (by omega) (by decide) rfl (by simp [mm_crf, mm_cti, mm_ctl]) rfl dX8_isWedding_21 ?_
    show V _ _ [] _
    refine mm_aload_n C (pc := 24) 0 dX8_isWedding_24 rfl ?_
    replace hK := mm_bd hK; obtain ⟨v25, e25, hK⟩ := hK
    refine mm_getr C (pc := 25) (k := 6) inGX8 rfl (by decide) wd_787 dX8_isWedding_25 e25 ?_
    refine mm_aload_n C (pc := 28) 0 dX8_isWedding_28 rfl ?_
    refine mm_iload_n C (pc := 29) 1 dX8_isWedding_29 rfl ?_
    refine mm_iload_n C (pc := 30) 2 dX8_isWedding_30 rfl ?_
    replace hK := mm_b2s hK; obtain ⟨v31, h31, e31, hK⟩ := hK
    obtain ⟨o31, e31⟩ := cV_some e31
    refine mm_callV C (pc := 31) (d1 := 1) (As := [.int a1, .int a2]) (st := [va_rf v25]) (vk := (some (.int v31))) ((S_X8_liking (by omega)) e31) tT_X8_liking o31 (Or.inr ⟨_, rfl, rfl⟩) wd_1063 wd_1064 wd_1065 (by omega) (by decide) rfl (by simp [mm_crf, mm_cti, mm_ctl]) rfl dX8_isWedding_31 ?_
    show V _ _ (.int v31 :: _) _
    refine mm_aload_n C (pc := 34) 0 dX8_isWedding_34 rfl ?_
    refine mm_iload_n C (pc := 35) 2 dX8_isWedding_35 rfl ?_
    refine mm_iload_n C (pc := 36) 1 dX8_isWedding_36 rfl ?_
    replace hK := mm_b2s hK; obtain ⟨v37, h37, e37, hK⟩ := hK
    obtain ⟨o37, e37⟩ := cV_some e37
    refine mm_callV C (pc := 37) (d1 := 1) (As := [.int a2, .int a1]) (st := [.int v31, va_rf v25]) (vk := (some (.int v37))) ((S_X8_liking (by omega)) e37) tT_X8_liking o37 (Or.inr ⟨_, rfl, rfl⟩) wd_1063 wd_1064 wd_1065 (by omega) (by decide) rfl (by simp [mm_crf, mm_cti, mm_ctl]) rfl dX8_isWedding_37 ?_
    show V _ _ (.int v37 :: _) _
    replace hK := mm_bd hK; obtain ⟨h40, e40, hK⟩ := hK
    obtain ⟨o40, e40⟩ := cV_some e40
    refine mm_callV C (pc := 40) (d1 := 1) (As := [.int v31, .int v37]) (st := []) (vk := none) ((S_X5_setLiking (by omega)) e40) tT_X5_setLiking o40 (Or.inr ⟨_, rfl, rfl⟩) wd_1067 wd_1068 wd_1069 (by omega) (by decide) rfl (by simp [mm_crf, mm_cti, mm_ctl]) rfl dX8_isWedding_40 ?_
    show V _ _ [] _
    refine mm_aload_n C (pc := 43) 0 dX8_isWedding_43 rfl ?_
    replace hK := mm_bd hK; obtain ⟨v44, e44, hK⟩ := hK
    refine mm_getr C (pc := 44) (k := 6) inGX8 rfl (by decide) wd_787 dX8_isWedding_44 e44 ?_
    replace hK := mm_b2s hK; obtain ⟨v47, h47, e47, hK⟩ := hK
    obtain ⟨o47, e47⟩ := cV_some e47
    refine mm_callV C (pc := 47) (d1 := 2) (As := []) (st := []) (vk := (some (.int v47))) ((S_X5_value (by omega)) e47) tT_X5_value o47 (Or.inr ⟨_, rfl, rfl⟩) wd_758 wd_759 wd_760 (by omega) (by decide) rfl (by simp [mm_crf, mm_cti, mm_ctl]) rfl dX8_isWedding_47 ?_
    show V _ _ (.int v47 :: _) _
    refine mm_if_eq C (pc := 50) (tgt := 57) dX8_isWedding_50 (by decide) (fun hc => ?_) (fun hc => ?_)
    · replace hK := mm_ip hc hK
      refine mm_iconst C (pc := 57) (v := (0 : Int32)) dX8_isWedding_57 (by decide) ?_
      refine mm_sub C [] rfl ?_
      exact w_X8_isWedding_58 hd C _ _ hK
    · replace hK := mm_in hc hK
      refine mm_iconst C (pc := 53) (v := (1 : Int32)) dX8_isWedding_53 (by decide) ?_
      refine mm_goto C (pc := 54) (tgt := 58) dX8_isWedding_54 (by decide) ?_
      refine mm_sub C [] rfl ?_
      exact w_X8_isWedding_58 hd C _ _ hK
  · replace hK := mm_ip hc hK
    refine mm_iconst C (pc := 7) (v := (0 : Int32)) dX8_isWedding_7 (by decide) ?_
    replace hK := rZ_some hK; obtain ⟨hv8, hK⟩ := hK
    cases hK
    exact mm_zret C (pc := 8) rfl (mm_nrZ hv8) dX8_isWedding_8 rfl rfl
def F_X0_marry_34 (h : MH) : Option MH := some h
set_option maxRecDepth 20000 in
set_option maxHeartbeats 4000000 in
theorem w_X0_marry_34 {d : Nat} {V : Nat → List (Nat × Value) → List Value → MH → Prop} {hz : MH} (hd : 2 ≤ d) (C : mm_C d yX0_marry cX0_marry 3 none (.inr none) hz V) (h : MH) (hK : F_X0_marry_34  h = some hz) : V 34 [] [] h := by
  unfold F_X0_marry_34 at hK
  cases hK
  exact mm_vret C (pc := 34) rfl dX0_marry_34 rfl rfl
def F_X0_marry (a0 : Option Nat) (a1 : Int32) (a2 : Int32) (h : MH) : Option MH := mm_b2 (cV h a0 0 (F_X0_isLine a0 a1 h)) fun v2 h2 => if v2 = 0 then (F_X0_marry_34 h2) else (mm_b2 (cV h2 a0 0 (F_X0_isLine a0 a2 h2)) fun v10 h10 => if v10 = 0 then (F_X0_marry_34 h10) else ((gR h10 a0 0 0).bind fun v17 => (sI h10 v17 0 ((3 : Int32) + a1) a2).bind fun h24 => (gR h24 a0 0 0).bind fun v26 => (sI h24 v26 0 ((3 : Int32) + a2) a1).bind fun h33 => F_X0_marry_34 h33))
set_option maxRecDepth 20000 in
set_option maxHeartbeats 4000000 in
theorem S_X0_marry {d : Nat} (hd : 2 ≤ d) {a0 : Option Nat} {a1 : Int32} {a2 : Int32} {h : MH} {hz : MH} (hK : F_X0_marry a0 a1 a2 h = some hz) : mm_M yX0_marry cX0_marry 3 none d [va_rf a0, .int a1, .int a2] h (.inr none) hz := by
  refine mm_ofV (by decide +kernel) (by simp [lg_sl, mm_crf, mm_cti, mm_ctl]) (fun V C => ?_)
  rw [show lv_args 0 [va_rf a0, .int a1, .int a2] = [(0, va_rf a0), (1, .int a1), (2, .int a2)] by simp [lv_args, mm_crf, mm_cti, mm_ctl]]
  unfold F_X0_marry at hK
  refine mm_aload_n C (pc := 0) 0 dX0_marry_0 rfl ?_
  refine mm_iload_n C (pc := 1) 1 dX0_marry_1 rfl ?_
  replace hK := mm_b2s hK; obtain ⟨v2, h2, e2, hK⟩ := hK
  obtain ⟨o2, e2⟩ := cV_some e2
  refine mm_callV C (pc := 2) (d1 := 1) (As := [.int a1]) (st := []) (vk := (some (.int v2))) ((S_X0_isLine (by omega)) e2) tT_X0_isLine o2 (Or.inr ⟨_, rfl, rfl⟩) wd_914 wd_916 wd_4 (by omega) (by decide) rfl (by simp [mm_crf, mm_cti, mm_ctl]) rfl dX0_marry_2 ?_
  show V _ _ (.int v2 :: _) _
  refine mm_if_eq C (pc := 5) (tgt := 34) dX0_marry_5 (by decide) (fun hc => ?_) (fun hc => ?_)
  · replace hK := mm_ip hc hK
    refine mm_sub C [] rfl ?_
    exact w_X0_marry_34 hd C _ hK
  · replace hK := mm_in hc hK
    refine mm_aload_n C (pc := 8) 0 dX0_marry_8 rfl ?_
    refine mm_iload_n C (pc := 9) 2 dX0_marry_9 rfl ?_
    replace hK := mm_b2s hK; obtain ⟨v10, h10, e10, hK⟩ := hK
    obtain ⟨o10, e10⟩ := cV_some e10
    refine mm_callV C (pc := 10) (d1 := 1) (As := [.int a2]) (st := []) (vk := (some (.int v10))) ((S_X0_isLine (by omega)) e10) tT_X0_isLine o10 (Or.inr ⟨_, rfl, rfl⟩) wd_914 wd_916 wd_4 (by omega) (by decide) rfl (by simp [mm_crf, mm_cti, mm_ctl]) rfl dX0_marry_10 ?_
    show V _ _ (.int v10 :: _) _
    refine mm_if_eq C (pc := 13) (tgt := 34) dX0_marry_13 (by decide) (fun hc => ?_) (fun hc => ?_)
    · replace hK := mm_ip hc hK
      refine mm_sub C [] rfl ?_
      exact w_X0_marry_34 hd C _ hK
    · replace hK := mm_in hc hK
      refine mm_aload_n C (pc := 16) 0 dX0_marry_16 rfl ?_
      replace hK := mm_bd hK; obtain ⟨v17, e17, hK⟩ := hK
      refine mm_getr C (pc := 17) (k := 0) inGX0 rfl (by decide) wd_816 dX0_marry_17 e17 ?_
      refine mm_iconst C (pc := 20) (v := (3 : Int32)) dX0_marry_20 (by decide) ?_
      refine mm_iload_n C (pc := 21) 1 dX0_marry_21 rfl ?_
      refine mm_iadd C (pc := 22) dX0_marry_22 ?_
      refine mm_iload_n C (pc := 23) 2 dX0_marry_23 rfl ?_
      replace hK := mm_bd hK; obtain ⟨h24, e24, hK⟩ := hK
      refine mm_iast C (pc := 24) dX0_marry_24 e24 ?_
      refine mm_aload_n C (pc := 25) 0 dX0_marry_25 rfl ?_
      replace hK := mm_bd hK; obtain ⟨v26, e26, hK⟩ := hK
      refine mm_getr C (pc := 26) (k := 0) inGX0 rfl (by decide) wd_816 dX0_marry_26 e26 ?_
      refine mm_iconst C (pc := 29) (v := (3 : Int32)) dX0_marry_29 (by decide) ?_
      refine mm_iload_n C (pc := 30) 2 dX0_marry_30 rfl ?_
      refine mm_iadd C (pc := 31) dX0_marry_31 ?_
      refine mm_iload_n C (pc := 32) 1 dX0_marry_32 rfl ?_
      replace hK := mm_bd hK; obtain ⟨h33, e33, hK⟩ := hK
      refine mm_iast C (pc := 33) dX0_marry_33 e33 ?_
      refine mm_sub C [] rfl ?_
      exact w_X0_marry_34 hd C _ hK
theorem wd_1029 : Cond.methodLink RX0 150 yX0_whereTo ∈ lw_good := mm_wd 1029 (by decide +kernel) (by decide +kernel)
theorem wd_1038 : Cond.methodLink RX0 147 yX0_endOf ∈ lw_good := mm_wd 1038 (by decide +kernel) (by decide +kernel)
theorem wd_1042 : Cond.code yX1_takeCord cX1_takeCord 7 (some .int) ∈ lw_good := mm_wd 1042 (by decide +kernel) (by decide +kernel)
theorem tT_X1_takeCord : mm_T yX1_takeCord cX1_takeCord 7 (some .int) 5 := ⟨wd_1042, wd_145, by decide +kernel, by decide +kernel, by decide +kernel, by decide +kernel⟩
theorem wd_1039 : Cond.methodLink RX0 153 yX1_takeCord ∈ lw_good := mm_wd 1039 (by decide +kernel) (by decide +kernel)
theorem wd_1040 : Cond.instanceMethod yX1_takeCord ∈ lw_good := mm_wd 1040 (by decide +kernel) (by decide +kernel)
theorem wd_1041 : Cond.selects RX1 yX1_takeCord yX1_takeCord ∈ lw_good := mm_wd 1041 (by decide +kernel) (by decide +kernel)
theorem wd_1055 : Cond.methodLink RX0 84 yX0_spouse ∈ lw_good := mm_wd 1055 (by decide +kernel) (by decide +kernel)
theorem wd_1062 : Cond.code yX8_isWedding cX8_isWedding 5 (some .boolean) ∈ lw_good := mm_wd 1062 (by decide +kernel) (by decide +kernel)
theorem tT_X8_isWedding : mm_T yX8_isWedding cX8_isWedding 5 (some .boolean) 4 := ⟨wd_1062, wd_151, by decide +kernel, by decide +kernel, by decide +kernel, by decide +kernel⟩
theorem wd_1059 : Cond.methodLink RX0 157 yX8_isWedding ∈ lw_good := mm_wd 1059 (by decide +kernel) (by decide +kernel)
theorem wd_1060 : Cond.instanceMethod yX8_isWedding ∈ lw_good := mm_wd 1060 (by decide +kernel) (by decide +kernel)
theorem wd_1061 : Cond.selects RX8 yX8_isWedding yX8_isWedding ∈ lw_good := mm_wd 1061 (by decide +kernel) (by decide +kernel)
theorem wd_1074 : Cond.code yX0_marry cX0_marry 3 none ∈ lw_good := mm_wd 1074 (by decide +kernel) (by decide +kernel)
theorem tT_X0_marry : mm_T yX0_marry cX0_marry 3 none 2 := ⟨wd_1074, wd_150, by decide +kernel, by decide +kernel, by decide +kernel, by decide +kernel⟩
theorem wd_1071 : Cond.methodLink RX0 161 yX0_marry ∈ lw_good := mm_wd 1071 (by decide +kernel) (by decide +kernel)
theorem wd_1073 : Cond.instanceMethod yX0_marry ∈ lw_good := mm_wd 1073 (by decide +kernel) (by decide +kernel)
theorem wd_11 : Cond.selects RX0 yX0_marry yX0_marry ∈ lw_good := mm_wd 11 (by decide +kernel) (by decide +kernel)
def F_X0_begins_147 (h : MH) : Option (Int32 × MH) := rZ (1 : Int32) h
set_option maxRecDepth 20000 in
set_option maxHeartbeats 4000000 in
theorem w_X0_begins_147 {d : Nat} {V : Nat → List (Nat × Value) → List Value → MH → Prop} {r : Int32} {hz : MH} (hd : 4 ≤ d) (C : mm_C d yX0_begins cX0_begins 7 (some .boolean) (.inr (some (.int r))) hz V) (h : MH) (hK : F_X0_begins_147  h = some (r, hz)) : V 147 [] [] h := by
  unfold F_X0_begins_147 at hK
  refine mm_iconst C (pc := 147) (v := (1 : Int32)) dX0_begins_147 (by decide) ?_
  replace hK := rZ_some hK; obtain ⟨hv148, hK⟩ := hK
  cases hK
  exact mm_zret C (pc := 148) rfl (mm_nrZ hv148) dX0_begins_148 rfl rfl
def F_X0_begins_107 (l0 : Option Nat) (l1 : Int32) (l2 : Int32) (l3 : Int32) (l4 : Int32) (s0 : Int32) (h : MH) : Option (Int32 × MH) := mm_b2 (cV h l0 0 (F_X0_fact l0 l1 (1 : Int32) h)) fun v114 h114 => if l4 = v114 then (F_X0_begins_147 h114) else (if s0 = 0 then (F_X0_begins_147 h114) else ((gR h114 l0 0 2).bind fun v126 => mm_b2 (cV h114 v126 8 (F_X8_isWedding v126 l3 l4 l2 l1 h114)) fun v134 h134 => if v134 = 0 then (F_X0_begins_147 h134) else ((cV h134 l0 0 (F_X0_marry l0 l3 l4 h134)).bind fun h144 => F_X0_begins_147 h144)))
set_option maxRecDepth 20000 in
set_option maxHeartbeats 4000000 in
theorem w_X0_begins_107 {d : Nat} {V : Nat → List (Nat × Value) → List Value → MH → Prop} {r : Int32} {hz : MH} (hd : 4 ≤ d) (C : mm_C d yX0_begins cX0_begins 7 (some .boolean) (.inr (some (.int r))) hz V) (l0 : Option Nat) (l1 : Int32) (l2 : Int32) (l3 : Int32) (l4 : Int32) (s0 : Int32) (h : MH) (hK : F_X0_begins_107 l0 l1 l2 l3 l4 s0 h = some (r, hz)) : V 107 [(0, va_rf l0), (1, .int l1), (2, .int l2), (3, .int l3), (4, .int l4)] [.int s0] h := by
  unfold F_X0_begins_107 at hK
  refine mm_istore C (pc := 107) (i := 6) (lv' := [(6, .int s0), (0, va_rf l0), (1, .int l1), (2, .int l2), (3, .int l3), (4, .int l4)]) dX0_begins_107 (by decide) rfl ?_
  refine mm_iload C (pc := 109) 5 dX0_begins_109 rfl ?_
  refine mm_aload_n C (pc := 111) 1 dX0_begins_111 rfl ?_
  refine mm_iload_n C (pc := 112) 2 dX0_begins_112 rfl ?_
  refine mm_iconst C (pc := 113) (v := (1 : Int32)) dX0_begins_113 (by decide) ?_
  replace hK := mm_b2s hK; obtain ⟨v114, h114, e114, hK⟩ := hK
  obtain ⟨o114, e114⟩ := cV_some e114
  refine mm_callV C (pc := 114) (d1 := 1) (As := [.int l1, .int (1 : Int32)]) (st := [.int l4]) (vk := (some (.int v114))) ((S_X0_fact (by omega)) e114) tT_X0_fact o114 (Or.inr ⟨_, rfl, rfl⟩) wd_960 wd_961 wd_962 (by omega) (by decide) rfl (by simp [mm_crf, mm_cti, mm_ctl]) rfl dX0_begins_114 ?_
  show V _ _ (.int v114 :: _) _
  refine mm_icmp_eq C (pc := 117) (tgt := 147) dX0_begins_117 (by decide) (fun hc => ?_) (fun hc => ?_)
  · replace hK := mm_ip hc hK
    refine mm_sub C [] rfl ?_
    exact w_X0_begins_147 hd C _ hK
  · replace hK := mm_in hc hK
    refine mm_iload C (pc := 120) 0 dX0_begins_120 rfl ?_
    refine mm_if_eq C (pc := 122) (tgt := 147) dX0_begins_122 (by decide) (fun hc => ?_) (fun hc => ?_)
    · replace hK := mm_ip hc hK
      refine mm_sub C [] rfl ?_
      exact w_X0_begins_147 hd C _ hK
    · replace hK := mm_in hc hK
      refine mm_aload_n C (pc := 125) 1 dX0_begins_125 rfl ?_
      replace hK := mm_bd hK; obtain ⟨v126, e126, hK⟩ := hK
      refine mm_getr C (pc := 126) (k := 2) inGX0 rfl (by decide) wd_818 dX0_begins_126 e126 ?_
      refine mm_iload_n C (pc := 129) 4 dX0_begins_129 rfl ?_
      refine mm_iload C (pc := 130) 5 dX0_begins_130 rfl ?_
      refine mm_iload_n C (pc := 132) 3 dX0_begins_132 rfl ?_
      refine mm_iload_n C (pc := 133) 2 dX0_begins_133 rfl ?_
      replace hK := mm_b2s hK; obtain ⟨v134, h134, e134, hK⟩ := hK
      obtain ⟨o134, e134⟩ := cV_some e134
      refine mm_callV C (pc := 134) (d1 := 3) (As := [.int l3, .int l4, .int l2, .int l1]) (st := []) (vk := (some (.int v134))) ((S_X8_isWedding (by omega)) e134) tT_X8_isWedding o134 (Or.inr ⟨_, rfl, rfl⟩) wd_1059 wd_1060 wd_1061 (by omega) (by decide) rfl (by simp [mm_crf, mm_cti, mm_ctl]) rfl dX0_begins_134 ?_
      show V _ _ (.int v134 :: _) _
      refine mm_if_eq C (pc := 137) (tgt := 147) dX0_begins_137 (by decide) (fun hc => ?_) (fun hc => ?_)
      · replace hK := mm_ip hc hK
        refine mm_sub C [] rfl ?_
        exact w_X0_begins_147 hd C _ hK
      · replace hK := mm_in hc hK
        refine mm_aload_n C (pc := 140) 1 dX0_begins_140 rfl ?_
        refine mm_iload_n C (pc := 141) 4 dX0_begins_141 rfl ?_
        refine mm_iload C (pc := 142) 5 dX0_begins_142 rfl ?_
        replace hK := mm_bd hK; obtain ⟨h144, e144, hK⟩ := hK
        obtain ⟨o144, e144⟩ := cV_some e144
        refine mm_callV C (pc := 144) (d1 := 2) (As := [.int l3, .int l4]) (st := []) (vk := none) ((S_X0_marry (by omega)) e144) tT_X0_marry o144 (Or.inr ⟨_, rfl, rfl⟩) wd_1071 wd_1073 wd_11 (by omega) (by decide) rfl (by simp [mm_crf, mm_cti, mm_ctl]) rfl dX0_begins_144 ?_
        show V _ _ [] _
        refine mm_sub C [] rfl ?_
        exact w_X0_begins_147 hd C _ hK
def F_X0_begins_106 (l0 : Option Nat) (l1 : Int32) (l2 : Int32) (l3 : Int32) (l4 : Int32) (h : MH) : Option (Int32 × MH) := F_X0_begins_107 l0 l1 l2 l3 l4 (0 : Int32) h
set_option maxRecDepth 20000 in
set_option maxHeartbeats 4000000 in
theorem w_X0_begins_106 {d : Nat} {V : Nat → List (Nat × Value) → List Value → MH → Prop} {r : Int32} {hz : MH} (hd : 4 ≤ d) (C : mm_C d yX0_begins cX0_begins 7 (some .boolean) (.inr (some (.int r))) hz V) (l0 : Option Nat) (l1 : Int32) (l2 : Int32) (l3 : Int32) (l4 : Int32) (h : MH) (hK : F_X0_begins_106 l0 l1 l2 l3 l4 h = some (r, hz)) : V 106 [(0, va_rf l0), (1, .int l1), (2, .int l2), (3, .int l3), (4, .int l4)] [] h := by
  unfold F_X0_begins_106 at hK
  refine mm_iconst C (pc := 106) (v := (0 : Int32)) dX0_begins_106 (by decide) ?_
  exact w_X0_begins_107 hd C _ _ _ _ _ _ _ hK
def F_X0_begins (a0 : Option Nat) (a1 : Int32) (h : MH) : Option (Int32 × MH) := mm_b2 (cV h a0 0 (F_X0_fact a0 a1 (2 : Int32) h)) fun v3 h3 => mm_b2 (cV h3 a0 0 (F_X0_fact a0 a1 (0 : Int32) h3)) fun v10 h10 => mm_b2 (cV h10 a0 0 (F_X0_whereTo a0 a1 v3 h10)) fun v17 h17 => (gR h17 a0 0 1).bind fun v23 => (gR h17 a0 0 2).bind fun v27 => mm_b2 (cV h17 a0 0 (F_X0_endOf a0 a1 h17)) fun v36 h36 => mm_b2 (cV h36 v23 1 (F_X1_takeCord v23 v27 v10 v17 v3 v36 h36)) fun v39 h39 => if v39 = ((-1) : Int32) then ((cV h39 a0 0 (F_X0_setFact a0 a1 (4 : Int32) (3 : Int32) h39)).bind fun h54 => rZ (0 : Int32) h54) else ((cV h39 a0 0 (F_X0_setFact a0 a1 (4 : Int32) (1 : Int32) h39)).bind fun h63 => (cV h63 a0 0 (F_X0_setFact a0 a1 (5 : Int32) v17 h63)).bind fun h71 => (cV h71 a0 0 (F_X0_setFact a0 a1 (6 : Int32) v39 h71)).bind fun h80 => mm_b2 (cV h80 a0 0 (F_X0_spouse a0 v10 h80)) fun v85 h85 => if v85 = ((-1) : Int32) then (mm_b2 (cV h85 a0 0 (F_X0_spouse a0 v17 h85)) fun v95 h95 => if v95 = ((-1) : Int32) then (F_X0_begins_107 a0 a1 v3 v10 v17 (1 : Int32) h95) else (F_X0_begins_106 a0 a1 v3 v10 v17 h95)) else (F_X0_begins_106 a0 a1 v3 v10 v17 h85))
set_option maxRecDepth 20000 in
set_option maxHeartbeats 4000000 in
theorem S_X0_begins {d : Nat} (hd : 4 ≤ d) {a0 : Option Nat} {a1 : Int32} {h : MH} {r : Int32} {hz : MH} (hK : F_X0_begins a0 a1 h = some (r, hz)) : mm_M yX0_begins cX0_begins 7 (some .boolean) d [va_rf a0, .int a1] h (.inr (some (.int r))) hz := by
  refine mm_ofV (by decide +kernel) (by simp [lg_sl, mm_crf, mm_cti, mm_ctl]) (fun V C => ?_)
  rw [show lv_args 0 [va_rf a0, .int a1] = [(0, va_rf a0), (1, .int a1)] by simp [lv_args, mm_crf, mm_cti, mm_ctl]]
  unfold F_X0_begins at hK
  refine mm_aload_n C (pc := 0) 0 dX0_begins_0 rfl ?_
  refine mm_iload_n C (pc := 1) 1 dX0_begins_1 rfl ?_
  refine mm_iconst C (pc := 2) (v := (2 : Int32)) dX0_begins_2 (by decide) ?_
  replace hK := mm_b2s hK; obtain ⟨v3, h3, e3, hK⟩ := hK
  obtain ⟨o3, e3⟩ := cV_some e3
  refine mm_callV C (pc := 3) (d1 := 1) (As := [.int a1, .int (2 : Int32)]) (st := []) (vk := (some (.int v3))) ((S_X0_fact (by omega)) e3) tT_X0_fact o3 (Or.inr ⟨_, rfl, rfl⟩) wd_960 wd_961 wd_962 (by omega) (by decide) rfl (by simp [mm_crf, mm_cti, mm_ctl]) rfl dX0_begins_3 ?_
  show V _ _ (.int v3 :: _) _
  refine mm_istore_n C (pc := 6) (i := 2) (lv' := [(2, .int v3), (0, va_rf a0), (1, .int a1)]) dX0_begins_6 rfl (by decide) rfl ?_
  refine mm_aload_n C (pc := 7) 1 dX0_begins_7 rfl ?_
  refine mm_iload_n C (pc := 8) 2 dX0_begins_8 rfl ?_
  refine mm_iconst C (pc := 9) (v := (0 : Int32)) dX0_begins_9 (by decide) ?_
  replace hK := mm_b2s hK; obtain ⟨v10, h10, e10, hK⟩ := hK
  obtain ⟨o10, e10⟩ := cV_some e10
  refine mm_callV C (pc := 10) (d1 := 1) (As := [.int a1, .int (0 : Int32)]) (st := []) (vk := (some (.int v10))) ((S_X0_fact (by omega)) e10) tT_X0_fact o10 (Or.inr ⟨_, rfl, rfl⟩) wd_960 wd_961 wd_962 (by omega) (by decide) rfl (by simp [mm_crf, mm_cti, mm_ctl]) rfl dX0_begins_10 ?_
  show V _ _ (.int v10 :: _) _
  refine mm_istore_n C (pc := 13) (i := 3) (lv' := [(3, .int v10), (2, .int v3), (0, va_rf a0), (1, .int a1)]) dX0_begins_13 rfl (by decide) rfl ?_
  refine mm_aload_n C (pc := 14) 2 dX0_begins_14 rfl ?_
  refine mm_iload_n C (pc := 15) 3 dX0_begins_15 rfl ?_
  refine mm_iload_n C (pc := 16) 1 dX0_begins_16 rfl ?_
  replace hK := mm_b2s hK; obtain ⟨v17, h17, e17, hK⟩ := hK
  obtain ⟨o17, e17⟩ := cV_some e17
  refine mm_callV C (pc := 17) (d1 := 3) (As := [.int a1, .int v3]) (st := []) (vk := (some (.int v17))) ((S_X0_whereTo (by omega)) e17) tT_X0_whereTo o17 (Or.inr ⟨_, rfl, rfl⟩) wd_1029 wd_1030 wd_1031 (by omega) (by decide) rfl (by simp [mm_crf, mm_cti, mm_ctl]) rfl dX0_begins_17 ?_
  show V _ _ (.int v17 :: _) _
  refine mm_istore C (pc := 20) (i := 4) (lv' := [(4, .int v17), (3, .int v10), (2, .int v3), (0, va_rf a0), (1, .int a1)]) dX0_begins_20 (by decide) rfl ?_
  refine mm_aload_n C (pc := 22) 3 dX0_begins_22 rfl ?_
  replace hK := mm_bd hK; obtain ⟨v23, e23, hK⟩ := hK
  refine mm_getr C (pc := 23) (k := 1) inGX0 rfl (by decide) wd_817 dX0_begins_23 e23 ?_
  refine mm_aload_n C (pc := 26) 3 dX0_begins_26 rfl ?_
  replace hK := mm_bd hK; obtain ⟨v27, e27, hK⟩ := hK
  refine mm_getr C (pc := 27) (k := 2) inGX0 rfl (by decide) wd_818 dX0_begins_27 e27 ?_
  refine mm_iload_n C (pc := 30) 1 dX0_begins_30 rfl ?_
  refine mm_iload C (pc := 31) 0 dX0_begins_31 rfl ?_
  refine mm_iload_n C (pc := 33) 2 dX0_begins_33 rfl ?_
  refine mm_aload_n C (pc := 34) 3 dX0_begins_34 rfl ?_
  refine mm_iload_n C (pc := 35) 4 dX0_begins_35 rfl ?_
  replace hK := mm_b2s hK; obtain ⟨v36, h36, e36, hK⟩ := hK
  obtain ⟨o36, e36⟩ := cV_some e36
  refine mm_callV C (pc := 36) (d1 := 2) (As := [.int a1]) (st := [.int v3, .int v17, .int v10, va_rf v27, va_rf v23]) (vk := (some (.int v36))) ((S_X0_endOf (by omega)) e36) tT_X0_endOf o36 (Or.inr ⟨_, rfl, rfl⟩) wd_1038 wd_1001 wd_1002 (by omega) (by decide) rfl (by simp [mm_crf, mm_cti, mm_ctl]) rfl dX0_begins_36 ?_
  show V _ _ (.int v36 :: _) _
  replace hK := mm_b2s hK; obtain ⟨v39, h39, e39, hK⟩ := hK
  obtain ⟨o39, e39⟩ := cV_some e39
  refine mm_callV C (pc := 39) (d1 := 3) (As := [va_rf v27, .int v10, .int v17, .int v3, .int v36]) (st := []) (vk := (some (.int v39))) ((S_X1_takeCord (by omega)) e39) tT_X1_takeCord o39 (Or.inr ⟨_, rfl, rfl⟩) wd_1039 wd_1040 wd_1041 (by omega) (by decide) rfl (by simp [mm_crf, mm_cti, mm_ctl]) rfl dX0_begins_39 ?_
  show V _ _ (.int v39 :: _) _
  refine mm_istore C (pc := 42) (i := 5) (lv' := [(5, .int v39), (4, .int v17), (3, .int v10), (2, .int v3), (0, va_rf a0), (1, .int a1)]) dX0_begins_42 (by decide) rfl ?_
  refine mm_iload C (pc := 44) 0 dX0_begins_44 rfl ?_
  refine mm_iconst C (pc := 46) (v := ((-1) : Int32)) dX0_begins_46 (by decide) ?_
  refine mm_icmp_ne C (pc := 47) (tgt := 59) dX0_begins_47 (by decide) (fun hc => ?_) (fun hc => ?_)
  · replace hK := mm_in hc hK
    refine mm_aload_n C (pc := 59) 4 dX0_begins_59 rfl ?_
    refine mm_iload_n C (pc := 60) 5 dX0_begins_60 rfl ?_
    refine mm_iconst C (pc := 61) (v := (4 : Int32)) dX0_begins_61 (by decide) ?_
    refine mm_iconst C (pc := 62) (v := (1 : Int32)) dX0_begins_62 (by decide) ?_
    replace hK := mm_bd hK; obtain ⟨h63, e63, hK⟩ := hK
    obtain ⟨o63, e63⟩ := cV_some e63
    refine mm_callV C (pc := 63) (d1 := 1) (As := [.int a1, .int (4 : Int32), .int (1 : Int32)]) (st := []) (vk := none) ((S_X0_setFact (by omega)) e63) tT_X0_setFact o63 (Or.inr ⟨_, rfl, rfl⟩) wd_944 wd_946 wd_6 (by omega) (by decide) rfl (by simp [mm_crf, mm_cti, mm_ctl]) rfl dX0_begins_63 ?_
    show V _ _ [] _
    refine mm_aload_n C (pc := 66) 4 dX0_begins_66 rfl ?_
    refine mm_iload_n C (pc := 67) 5 dX0_begins_67 rfl ?_
    refine mm_iconst C (pc := 68) (v := (5 : Int32)) dX0_begins_68 (by decide) ?_
    refine mm_iload C (pc := 69) 1 dX0_begins_69 rfl ?_
    replace hK := mm_bd hK; obtain ⟨h71, e71, hK⟩ := hK
    obtain ⟨o71, e71⟩ := cV_some e71
    refine mm_callV C (pc := 71) (d1 := 1) (As := [.int a1, .int (5 : Int32), .int v17]) (st := []) (vk := none) ((S_X0_setFact (by omega)) e71) tT_X0_setFact o71 (Or.inr ⟨_, rfl, rfl⟩) wd_944 wd_946 wd_6 (by omega) (by decide) rfl (by simp [mm_crf, mm_cti, mm_ctl]) rfl dX0_begins_71 ?_
    show V _ _ [] _
    refine mm_aload_n C (pc := 74) 4 dX0_begins_74 rfl ?_
    refine mm_iload_n C (pc := 75) 5 dX0_begins_75 rfl ?_
    refine mm_bipush C (pc := 76) (v := (6 : Int32)) dX0_begins_76 (by decide) ?_
    refine mm_iload C (pc := 78) 0 dX0_begins_78 rfl ?_
    replace hK := mm_bd hK; obtain ⟨h80, e80, hK⟩ := hK
    obtain ⟨o80, e80⟩ := cV_some e80
    refine mm_callV C (pc := 80) (d1 := 1) (As := [.int a1, .int (6 : Int32), .int v39]) (st := []) (vk := none) ((S_X0_setFact (by omega)) e80) tT_X0_setFact o80 (Or.inr ⟨_, rfl, rfl⟩) wd_944 wd_946 wd_6 (by omega) (by decide) rfl (by simp [mm_crf, mm_cti, mm_ctl]) rfl dX0_begins_80 ?_
    show V _ _ [] _
    refine mm_aload_n C (pc := 83) 4 dX0_begins_83 rfl ?_
    refine mm_iload_n C (pc := 84) 2 dX0_begins_84 rfl ?_
    replace hK := mm_b2s hK; obtain ⟨v85, h85, e85, hK⟩ := hK
    obtain ⟨o85, e85⟩ := cV_some e85
    refine mm_callV C (pc := 85) (d1 := 2) (As := [.int v10]) (st := []) (vk := (some (.int v85))) ((S_X0_spouse (by omega)) e85) tT_X0_spouse o85 (Or.inr ⟨_, rfl, rfl⟩) wd_1055 wd_1056 wd_1057 (by omega) (by decide) rfl (by simp [mm_crf, mm_cti, mm_ctl]) rfl dX0_begins_85 ?_
    show V _ _ (.int v85 :: _) _
    refine mm_iconst C (pc := 88) (v := ((-1) : Int32)) dX0_begins_88 (by decide) ?_
    refine mm_icmp_ne C (pc := 89) (tgt := 106) dX0_begins_89 (by decide) (fun hc => ?_) (fun hc => ?_)
    · replace hK := mm_in hc hK
      refine mm_sub C [4, 5, 3, 2, 1] rfl ?_
      exact w_X0_begins_106 hd C _ _ _ _ _ _ hK
    · replace hK := mm_ip hc hK
      refine mm_aload_n C (pc := 92) 4 dX0_begins_92 rfl ?_
      refine mm_iload C (pc := 93) 1 dX0_begins_93 rfl ?_
      replace hK := mm_b2s hK; obtain ⟨v95, h95, e95, hK⟩ := hK
      obtain ⟨o95, e95⟩ := cV_some e95
      refine mm_callV C (pc := 95) (d1 := 2) (As := [.int v17]) (st := []) (vk := (some (.int v95))) ((S_X0_spouse (by omega)) e95) tT_X0_spouse o95 (Or.inr ⟨_, rfl, rfl⟩) wd_1055 wd_1056 wd_1057 (by omega) (by decide) rfl (by simp [mm_crf, mm_cti, mm_ctl]) rfl dX0_begins_95 ?_
      show V _ _ (.int v95 :: _) _
      refine mm_iconst C (pc := 98) (v := ((-1) : Int32)) dX0_begins_98 (by decide) ?_
      refine mm_icmp_ne C (pc := 99) (tgt := 106) dX0_begins_99 (by decide) (fun hc => ?_) (fun hc => ?_)
      · replace hK := mm_in hc hK
        refine mm_sub C [4, 5, 3, 2, 1] rfl ?_
        exact w_X0_begins_106 hd C _ _ _ _ _ _ hK
      · replace hK := mm_ip hc hK
        refine mm_iconst C (pc := 102) (v := (1 : Int32)) dX0_begins_102 (by decide) ?_
        refine mm_goto C (pc := 103) (tgt := 107) dX0_begins_103 (by decide) ?_
        refine mm_sub C [4, 5, 3, 2, 1] rfl ?_
        exact w_X0_begins_107 hd C _ _ _ _ _ _ _ hK
  · replace hK := mm_ip hc hK
    refine mm_aload_n C (pc := 50) 4 dX0_begins_50 rfl ?_
    refine mm_iload_n C (pc := 51) 5 dX0_begins_51 rfl ?_
    refine mm_iconst C (pc := 52) (v := (4 : Int32)) dX0_begins_52 (by decide) ?_
    refine mm_iconst C (pc := 53) (v := (3 : Int32)) dX0_begins_53 (by decide) ?_
    replace hK := mm_bd hK; obtain ⟨h54, e54, hK⟩ := hK
    obtain ⟨o54, e54⟩ := cV_some e54
    refine mm_callV C (pc := 54) (d1 := 1) (As := [.int a1, .int (4 : Int32), .int (3 : Int32)]) (st := []) (vk := none) ((S_X0_setFact (by omega)) e54) tT_X0_setFact o54 (Or.inr ⟨_, rfl, rfl⟩) wd_944 wd_946 wd_6 (by omega) (by decide) rfl (by simp [mm_crf, mm_cti, mm_ctl]) rfl dX0_begins_54 ?_
    show V _ _ [] _
    refine mm_iconst C (pc := 57) (v := (0 : Int32)) dX0_begins_57 (by decide) ?_
    replace hK := rZ_some hK; obtain ⟨hv58, hK⟩ := hK
    cases hK
    exact mm_zret C (pc := 58) rfl (mm_nrZ hv58) dX0_begins_58 rfl rfl
theorem wd_987 : Cond.code yX1_start cX1_start 3 none ∈ lw_good := mm_wd 987 (by decide +kernel) (by decide +kernel)
theorem tT_X1_start : mm_T yX1_start cX1_start 3 none 1 := ⟨wd_987, wd_145, by decide +kernel, by decide +kernel, by decide +kernel, by decide +kernel⟩
theorem wd_984 : Cond.methodLink RX0 134 yX1_start ∈ lw_good := mm_wd 984 (by decide +kernel) (by decide +kernel)
theorem wd_985 : Cond.instanceMethod yX1_start ∈ lw_good := mm_wd 985 (by decide +kernel) (by decide +kernel)
theorem wd_986 : Cond.selects RX1 yX1_start yX1_start ∈ lw_good := mm_wd 986 (by decide +kernel) (by decide +kernel)
theorem wd_1020 : Cond.code yX1_many cX1_many 1 (some .int) ∈ lw_good := mm_wd 1020 (by decide +kernel) (by decide +kernel)
theorem tT_X1_many : mm_T yX1_many cX1_many 1 (some .int) 0 := ⟨wd_1020, wd_145, by decide +kernel, by decide +kernel, by decide +kernel, by decide +kernel⟩
theorem wd_1017 : Cond.methodLink RX0 138 yX1_many ∈ lw_good := mm_wd 1017 (by decide +kernel) (by decide +kernel)
theorem wd_1018 : Cond.instanceMethod yX1_many ∈ lw_good := mm_wd 1018 (by decide +kernel) (by decide +kernel)
theorem wd_1019 : Cond.selects RX1 yX1_many yX1_many ∈ lw_good := mm_wd 1019 (by decide +kernel) (by decide +kernel)
theorem wd_1024 : Cond.code yX1_callAt cX1_callAt 2 (some .int) ∈ lw_good := mm_wd 1024 (by decide +kernel) (by decide +kernel)
theorem tT_X1_callAt : mm_T yX1_callAt cX1_callAt 2 (some .int) 1 := ⟨wd_1024, wd_145, by decide +kernel, by decide +kernel, by decide +kernel, by decide +kernel⟩
theorem wd_1021 : Cond.methodLink RX0 141 yX1_callAt ∈ lw_good := mm_wd 1021 (by decide +kernel) (by decide +kernel)
theorem wd_1022 : Cond.instanceMethod yX1_callAt ∈ lw_good := mm_wd 1022 (by decide +kernel) (by decide +kernel)
theorem wd_1023 : Cond.selects RX1 yX1_callAt yX1_callAt ∈ lw_good := mm_wd 1023 (by decide +kernel) (by decide +kernel)
theorem wd_1028 : Cond.code yX0_begins cX0_begins 7 (some .boolean) ∈ lw_good := mm_wd 1028 (by decide +kernel) (by decide +kernel)
theorem tT_X0_begins : mm_T yX0_begins cX0_begins 7 (some .boolean) 1 := ⟨wd_1028, wd_150, by decide +kernel, by decide +kernel, by decide +kernel, by decide +kernel⟩
theorem wd_1025 : Cond.methodLink RX0 144 yX0_begins ∈ lw_good := mm_wd 1025 (by decide +kernel) (by decide +kernel)
theorem wd_1027 : Cond.instanceMethod yX0_begins ∈ lw_good := mm_wd 1027 (by decide +kernel) (by decide +kernel)
theorem wd_10 : Cond.selects RX0 yX0_begins yX0_begins ∈ lw_good := mm_wd 10 (by decide +kernel) (by decide +kernel)
def F_X0_pass_111 (k75 : Option Nat → Int32 → Int32 → Int32 → MH → Option (Int32 × MH)) (l0 : Option Nat) (l2 : Int32) (l3 : Int32) (l4 : Int32) (h : MH) : Option (Int32 × MH) := k75 l0 l2 l3 (l4 + (1 : Int32)) h
set_option maxRecDepth 20000 in
set_option maxHeartbeats 4000000 in
theorem w_X0_pass_111 {d : Nat} {V : Nat → List (Nat × Value) → List Value → MH → Prop} {r : Int32} {hz : MH} {k75 : Option Nat → Int32 → Int32 → Int32 → MH → Option (Int32 × MH)} (hd : 5 ≤ d) (C : mm_C d yX0_pass cX0_pass 6 (some .int) (.inr (some (.int r))) hz V) (q75 : ∀ (x0 : Option Nat) (x1 : Int32) (x2 : Int32) (x3 : Int32) (h : MH), k75 x0 x1 x2 x3 h = some (r, hz) → V 75 [(0, va_rf x0), (2, .int x1), (3, .int x2), (4, .int x3)] [] h) (l0 : Option Nat) (l2 : Int32) (l3 : Int32) (l4 : Int32) (h : MH) (hK : F_X0_pass_111 k75 l0 l2 l3 l4 h = some (r, hz)) : V 111 [(0, va_rf l0), (2, .int l2), (3, .int l3), (4, .int l4)] [] h := by
  unfold F_X0_pass_111 at hK
  refine mm_iinc C (pc := 111) (v := (l4 + (1 : Int32))) (lv' := [(4, .int (l4 + (1 : Int32))), (0, va_rf l0), (2, .int l2), (3, .int l3)]) 3 dX0_pass_111 rfl rfl (by decide) rfl ?_
  refine mm_goto C (pc := 114) (tgt := 75) dX0_pass_114 (by decide) ?_
  refine mm_sub C [1, 2, 3, 0] rfl ?_
  exact q75 _ _ _ _ _ hK
def F_X0_pass_75 : Nat → Option Nat → Int32 → Int32 → Int32 → MH → Option (Int32 × MH)
  | 0 => fun _ _ _ _ _ => none
  | n + 1 => fun l0 l2 l3 l4 h => mm_b2 (cV h l0 0 (F_X0_calls l0 h)) fun v78 h78 => if v78 ≤ l4 then ((gR h78 l0 0 0).bind fun v118 => (sI h78 v118 0 (0 : Int32) l2).bind fun h123 => some (l3, h123)) else (mm_b2 (cV h78 l0 0 (F_X0_isOn l0 l4 h78)) fun v87 h87 => if v87 = 0 then (F_X0_pass_111 (F_X0_pass_75 n) l0 l2 l3 l4 h87) else (mm_b2 (cV h87 l0 0 (F_X0_endOf l0 l4 h87)) fun v96 h96 => if l2 ≤ v96 then (F_X0_pass_111 (F_X0_pass_75 n) l0 l2 l3 l4 h96) else ((cV h96 l0 0 (F_X0_setFact l0 l4 (4 : Int32) (2 : Int32) h96)).bind fun h108 => F_X0_pass_111 (F_X0_pass_75 n) l0 l2 l3 l4 h108)))
set_option maxRecDepth 20000 in
set_option maxHeartbeats 4000000 in
theorem w_X0_pass_75 {d : Nat} {V : Nat → List (Nat × Value) → List Value → MH → Prop} {r : Int32} {hz : MH} (hd : 5 ≤ d) (C : mm_C d yX0_pass cX0_pass 6 (some .int) (.inr (some (.int r))) hz V) : ∀ (n : Nat) (l0 : Option Nat) (l2 : Int32) (l3 : Int32) (l4 : Int32) (h : MH), F_X0_pass_75 n l0 l2 l3 l4 h = some (r, hz) → V 75 [(0, va_rf l0), (2, .int l2), (3, .int l3), (4, .int l4)] [] h := by
  intro n
  induction n with
  | zero => intro l0 l2 l3 l4 h hK; cases hK
  | succ n ih =>
    intro l0 l2 l3 l4 h hK
    replace hK : (mm_b2 (cV h l0 0 (F_X0_calls l0 h)) fun v78 h78 => if v78 ≤ l4 then ((gR h78 l0 0 0).bind fun v118 => (sI h78 v118 0 (0 : Int32) l2).bind fun h123 => some (l3, h123)) else (mm_b2 (cV h78 l0 0 (F_X0_isOn l0 l4 h78)) fun v87 h87 => if v87 = 0 then (F_X0_pass_111 (F_X0_pass_75 n) l0 l2 l3 l4 h87) else (mm_b2 (cV h87 l0 0 (F_X0_endOf l0 l4 h87)) fun v96 h96 => if l2 ≤ v96 then (F_X0_pass_111 (F_X0_pass_75 n) l0 l2 l3 l4 h96) else ((cV h96 l0 0 (F_X0_setFact l0 l4 (4 : Int32) (2 : Int32) h96)).bind fun h108 => F_X0_pass_111 (F_X0_pass_75 n) l0 l2 l3 l4 h108)))) = some (r, hz) := hK
    refine mm_iload C (pc := 75) 3 dX0_pass_75 rfl ?_
    refine mm_aload_n C (pc := 77) 0 dX0_pass_77 rfl ?_
    replace hK := mm_b2s hK; obtain ⟨v78, h78, e78, hK⟩ := hK
    obtain ⟨o78, e78⟩ := cV_some e78
    refine mm_callV C (pc := 78) (d1 := 1) (As := []) (st := [.int l4]) (vk := (some (.int v78))) ((S_X0_calls (by omega)) e78) tT_X0_calls o78 (Or.inr ⟨_, rfl, rfl⟩) wd_918 wd_919 wd_920 (by omega) (by decide) rfl (by simp [mm_crf, mm_cti, mm_ctl]) rfl dX0_pass_78 ?_
    show V _ _ (.int v78 :: _) _
    refine mm_icmp_ge C (pc := 81) (tgt := 117) dX0_pass_81 (by decide) (fun hc => ?_) (fun hc => ?_)
    · replace hK := mm_ip hc hK
      refine mm_aload_n C (pc := 117) 0 dX0_pass_117 rfl ?_
      replace hK := mm_bd hK; obtain ⟨v118, e118, hK⟩ := hK
      refine mm_getr C (pc := 118) (k := 0) inGX0 rfl (by decide) wd_816 dX0_pass_118 e118 ?_
      refine mm_iconst C (pc := 121) (v := (0 : Int32)) dX0_pass_121 (by decide) ?_
      refine mm_iload_n C (pc := 122) 1 dX0_pass_122 rfl ?_
      replace hK := mm_bd hK; obtain ⟨h123, e123, hK⟩ := hK
      refine mm_iast C (pc := 123) dX0_pass_123 e123 ?_
      refine mm_iload_n C (pc := 124) 2 dX0_pass_124 rfl ?_
      cases hK
      exact mm_iret C (pc := 125) rfl dX0_pass_125 rfl rfl
    · replace hK := mm_in hc hK
      refine mm_aload_n C (pc := 84) 0 dX0_pass_84 rfl ?_
      refine mm_iload C (pc := 85) 3 dX0_pass_85 rfl ?_
      replace hK := mm_b2s hK; obtain ⟨v87, h87, e87, hK⟩ := hK
      obtain ⟨o87, e87⟩ := cV_some e87
      refine mm_callV C (pc := 87) (d1 := 2) (As := [.int l4]) (st := []) (vk := (some (.int v87))) ((S_X0_isOn (by omega)) e87) tT_X0_isOn o87 (Or.inr ⟨_, rfl, rfl⟩) wd_956 wd_957 wd_958 (by omega) (by decide) rfl (by simp [mm_crf, mm_cti, mm_ctl]) rfl dX0_pass_87 ?_
      show V _ _ (.int v87 :: _) _
      refine mm_if_eq C (pc := 90) (tgt := 111) dX0_pass_90 (by decide) (fun hc => ?_) (fun hc => ?_)
      · replace hK := mm_ip hc hK
        exact w_X0_pass_111 hd C (fun z0 z1 z2 z3 z4 hK => ih z0 z1 z2 z3 z4 hK) _ _ _ _ _ hK
      · replace hK := mm_in hc hK
        refine mm_aload_n C (pc := 93) 0 dX0_pass_93 rfl ?_
        refine mm_iload C (pc := 94) 3 dX0_pass_94 rfl ?_
        replace hK := mm_b2s hK; obtain ⟨v96, h96, e96, hK⟩ := hK
        obtain ⟨o96, e96⟩ := cV_some e96
        refine mm_callV C (pc := 96) (d1 := 2) (As := [.int l4]) (st := []) (vk := (some (.int v96))) ((S_X0_endOf (by omega)) e96) tT_X0_endOf o96 (Or.inr ⟨_, rfl, rfl⟩) wd_1038 wd_1001 wd_1002 (by omega) (by decide) rfl (by simp [mm_crf, mm_cti, mm_ctl]) rfl dX0_pass_96 ?_
        show V _ _ (.int v96 :: _) _
        refine mm_iload_n C (pc := 99) 1 dX0_pass_99 rfl ?_
        refine mm_icmp_ge C (pc := 100) (tgt := 111) dX0_pass_100 (by decide) (fun hc => ?_) (fun hc => ?_)
        · replace hK := mm_ip hc hK
          exact w_X0_pass_111 hd C (fun z0 z1 z2 z3 z4 hK => ih z0 z1 z2 z3 z4 hK) _ _ _ _ _ hK
        · replace hK := mm_in hc hK
          refine mm_aload_n C (pc := 103) 0 dX0_pass_103 rfl ?_
          refine mm_iload C (pc := 104) 3 dX0_pass_104 rfl ?_
          refine mm_iconst C (pc := 106) (v := (4 : Int32)) dX0_pass_106 (by decide) ?_
          refine mm_iconst C (pc := 107) (v := (2 : Int32)) dX0_pass_107 (by decide) ?_
          replace hK := mm_bd hK; obtain ⟨h108, e108, hK⟩ := hK
          obtain ⟨o108, e108⟩ := cV_some e108
          refine mm_callV C (pc := 108) (d1 := 1) (As := [.int l4, .int (4 : Int32), .int (2 : Int32)]) (st := []) (vk := none) ((S_X0_setFact (by omega)) e108) tT_X0_setFact o108 (Or.inr ⟨_, rfl, rfl⟩) wd_944 wd_946 wd_6 (by omega) (by decide) rfl (by simp [mm_crf, mm_cti, mm_ctl]) rfl dX0_pass_108 ?_
          show V _ _ [] _
          exact w_X0_pass_111 hd C (fun z0 z1 z2 z3 z4 hK => ih z0 z1 z2 z3 z4 hK) _ _ _ _ _ hK
def F_X0_pass_66 (k20 : Option Nat → Int32 → Int32 → Int32 → MH → Option (Int32 × MH)) (l0 : Option Nat) (l2 : Int32) (l3 : Int32) (l4 : Int32) (h : MH) : Option (Int32 × MH) := k20 l0 l2 l3 (l4 + (1 : Int32)) h
set_option maxRecDepth 20000 in
set_option maxHeartbeats 4000000 in
theorem w_X0_pass_66 {d : Nat} {V : Nat → List (Nat × Value) → List Value → MH → Prop} {r : Int32} {hz : MH} {k20 : Option Nat → Int32 → Int32 → Int32 → MH → Option (Int32 × MH)} (hd : 5 ≤ d) (C : mm_C d yX0_pass cX0_pass 6 (some .int) (.inr (some (.int r))) hz V) (q20 : ∀ (x0 : Option Nat) (x1 : Int32) (x2 : Int32) (x3 : Int32) (h : MH), k20 x0 x1 x2 x3 h = some (r, hz) → V 20 [(0, va_rf x0), (2, .int x1), (3, .int x2), (4, .int x3)] [] h) (l0 : Option Nat) (l2 : Int32) (l3 : Int32) (l4 : Int32) (h : MH) (hK : F_X0_pass_66 k20 l0 l2 l3 l4 h = some (r, hz)) : V 66 [(0, va_rf l0), (2, .int l2), (3, .int l3), (4, .int l4)] [] h := by
  unfold F_X0_pass_66 at hK
  refine mm_iinc C (pc := 66) (v := (l4 + (1 : Int32))) (lv' := [(4, .int (l4 + (1 : Int32))), (0, va_rf l0), (2, .int l2), (3, .int l3)]) 3 dX0_pass_66 rfl rfl (by decide) rfl ?_
  refine mm_goto C (pc := 69) (tgt := 20) dX0_pass_69 (by decide) ?_
  refine mm_sub C [1, 2, 3, 0] rfl ?_
  exact q20 _ _ _ _ _ hK
def F_X0_pass_20 : Nat → Option Nat → Int32 → Int32 → Int32 → MH → Option (Int32 × MH)
  | 0 => fun _ _ _ _ _ => none
  | n + 1 => fun l0 l2 l3 l4 h => (gR h l0 0 1).bind fun v23 => mm_b2 (cV h v23 1 (F_X1_many v23 h)) fun v26 h26 => if v26 ≤ l4 then (F_X0_pass_75 mm_N l0 l2 l3 (0 : Int32) h26) else ((gR h26 l0 0 1).bind fun v33 => mm_b2 (cV h26 v33 1 (F_X1_callAt v33 l4 h26)) fun v38 h38 => mm_b2 (cV h38 l0 0 (F_X0_fact l0 v38 (2 : Int32) h38)) fun v47 h47 => if l2 ≤ v47 then (F_X0_pass_66 (F_X0_pass_20 n) l0 l2 l3 l4 h47) else (mm_b2 (cV h47 l0 0 (F_X0_begins l0 v38 h47)) fun v57 h57 => if v57 = 0 then (F_X0_pass_66 (F_X0_pass_20 n) l0 l2 (l3 + (1 : Int32)) l4 h57) else (F_X0_pass_66 (F_X0_pass_20 n) l0 l2 l3 l4 h57)))
set_option maxRecDepth 20000 in
set_option maxHeartbeats 4000000 in
theorem w_X0_pass_20 {d : Nat} {V : Nat → List (Nat × Value) → List Value → MH → Prop} {r : Int32} {hz : MH} (hd : 5 ≤ d) (C : mm_C d yX0_pass cX0_pass 6 (some .int) (.inr (some (.int r))) hz V) : ∀ (n : Nat) (l0 : Option Nat) (l2 : Int32) (l3 : Int32) (l4 : Int32) (h : MH), F_X0_pass_20 n l0 l2 l3 l4 h = some (r, hz) → V 20 [(0, va_rf l0), (2, .int l2), (3, .int l3), (4, .int l4)] [] h := by
  intro n
  induction n with
  | zero => intro l0 l2 l3 l4 h hK; cases hK
  | succ n ih =>
    intro l0 l2 l3 l4 h hK
    replace hK : ((gR h l0 0 1).bind fun v23 => mm_b2 (cV h v23 1 (F_X1_many v23 h)) fun v26 h26 => if v26 ≤ l4 then (F_X0_pass_75 mm_N l0 l2 l3 (0 : Int32) h26) else ((gR h26 l0 0 1).bind fun v33 => mm_b2 (cV h26 v33 1 (F_X1_callAt v33 l4 h26)) fun v38 h38 => mm_b2 (cV h38 l0 0 (F_X0_fact l0 v38 (2 : Int32) h38)) fun v47 h47 => if l2 ≤ v47 then (F_X0_pass_66 (F_X0_pass_20 n) l0 l2 l3 l4 h47) else (mm_b2 (cV h47 l0 0 (F_X0_begins l0 v38 h47)) fun v57 h57 => if v57 = 0 then (F_X0_pass_66 (F_X0_pass_20 n) l0 l2 (l3 + (1 : Int32)) l4 h57) else (F_X0_pass_66 (F_X0_pass_20 n) l0 l2 l3 l4 h57)))) = some (r, hz) := hK
    refine mm_iload C (pc := 20) 3 dX0_pass_20 rfl ?_
    refine mm_aload_n C (pc := 22) 0 dX0_pass_22 rfl ?_
    replace hK := mm_bd hK; obtain ⟨v23, e23, hK⟩ := hK
    refine mm_getr C (pc := 23) (k := 1) inGX0 rfl (by decide) wd_817 dX0_pass_23 e23 ?_
    replace hK := mm_b2s hK; obtain ⟨v26, h26, e26, hK⟩ := hK
    obtain ⟨o26, e26⟩ := cV_some e26
    refine mm_callV C (pc := 26) (d1 := 1) (As := []) (st := [.int l4]) (vk := (some (.int v26))) ((S_X1_many (by omega)) e26) tT_X1_many o26 (Or.inr ⟨_, rfl, rfl⟩) wd_1017 wd_1018 wd_1019 (by omega) (by decide) rfl (by simp [mm_crf, mm_cti, mm_ctl]) rfl dX0_pass_26 ?_
    show V _ _ (.int v26 :: _) _
    refine mm_icmp_ge C (pc := 29) (tgt := 72) dX0_pass_29 (by decide) (fun hc => ?_) (fun hc => ?_)
    · replace hK := mm_ip hc hK
      refine mm_iconst C (pc := 72) (v := (0 : Int32)) dX0_pass_72 (by decide) ?_
      refine mm_istore C (pc := 73) (i := 4) (lv' := [(4, .int (0 : Int32)), (0, va_rf l0), (2, .int l2), (3, .int l3)]) dX0_pass_73 (by decide) rfl ?_
      refine mm_sub C [1, 2, 3, 0] rfl ?_
      exact w_X0_pass_75 hd C _ _ _ _ _ _ hK
    · replace hK := mm_in hc hK
      refine mm_aload_n C (pc := 32) 0 dX0_pass_32 rfl ?_
      replace hK := mm_bd hK; obtain ⟨v33, e33, hK⟩ := hK
      refine mm_getr C (pc := 33) (k := 1) inGX0 rfl (by decide) wd_817 dX0_pass_33 e33 ?_
      refine mm_iload C (pc := 36) 3 dX0_pass_36 rfl ?_
      replace hK := mm_b2s hK; obtain ⟨v38, h38, e38, hK⟩ := hK
      obtain ⟨o38, e38⟩ := cV_some e38
      refine mm_callV C (pc := 38) (d1 := 1) (As := [.int l4]) (st := []) (vk := (some (.int v38))) ((S_X1_callAt (by omega)) e38) tT_X1_callAt o38 (Or.inr ⟨_, rfl, rfl⟩) wd_1021 wd_1022 wd_1023 (by omega) (by decide) rfl (by simp [mm_crf, mm_cti, mm_ctl]) rfl dX0_pass_38 ?_
      show V _ _ (.int v38 :: _) _
      refine mm_istore C (pc := 41) (i := 5) (lv' := [(5, .int v38), (0, va_rf l0), (2, .int l2), (3, .int l3), (4, .int l4)]) dX0_pass_41 (by decide) rfl ?_
      refine mm_aload_n C (pc := 43) 1 dX0_pass_43 rfl ?_
      refine mm_iload C (pc := 44) 0 dX0_pass_44 rfl ?_
      refine mm_iconst C (pc := 46) (v := (2 : Int32)) dX0_pass_46 (by decide) ?_
      replace hK := mm_b2s hK; obtain ⟨v47, h47, e47, hK⟩ := hK
      obtain ⟨o47, e47⟩ := cV_some e47
      refine mm_callV C (pc := 47) (d1 := 1) (As := [.int v38, .int (2 : Int32)]) (st := []) (vk := (some (.int v47))) ((S_X0_fact (by omega)) e47) tT_X0_fact o47 (Or.inr ⟨_, rfl, rfl⟩) wd_960 wd_961 wd_962 (by omega) (by decide) rfl (by simp [mm_crf, mm_cti, mm_ctl]) rfl dX0_pass_47 ?_
      show V _ _ (.int v47 :: _) _
      refine mm_iload_n C (pc := 50) 2 dX0_pass_50 rfl ?_
      refine mm_icmp_ge C (pc := 51) (tgt := 66) dX0_pass_51 (by decide) (fun hc => ?_) (fun hc => ?_)
      · replace hK := mm_ip hc hK
        refine mm_sub C [1, 2, 3, 4] rfl ?_
        exact w_X0_pass_66 hd C (fun z0 z1 z2 z3 z4 hK => ih z0 z1 z2 z3 z4 hK) _ _ _ _ _ hK
      · replace hK := mm_in hc hK
        refine mm_aload_n C (pc := 54) 1 dX0_pass_54 rfl ?_
        refine mm_iload C (pc := 55) 0 dX0_pass_55 rfl ?_
        replace hK := mm_b2s hK; obtain ⟨v57, h57, e57, hK⟩ := hK
        obtain ⟨o57, e57⟩ := cV_some e57
        refine mm_callV C (pc := 57) (d1 := 4) (As := [.int v38]) (st := []) (vk := (some (.int v57))) ((S_X0_begins (by omega)) e57) tT_X0_begins o57 (Or.inr ⟨_, rfl, rfl⟩) wd_1025 wd_1027 wd_10 (by omega) (by decide) rfl (by simp [mm_crf, mm_cti, mm_ctl]) rfl dX0_pass_57 ?_
        show V _ _ (.int v57 :: _) _
        refine mm_if_ne C (pc := 60) (tgt := 66) dX0_pass_60 (by decide) (fun hc => ?_) (fun hc => ?_)
        · replace hK := mm_in hc hK
          refine mm_sub C [1, 2, 3, 4] rfl ?_
          exact w_X0_pass_66 hd C (fun z0 z1 z2 z3 z4 hK => ih z0 z1 z2 z3 z4 hK) _ _ _ _ _ hK
        · replace hK := mm_ip hc hK
          refine mm_iinc C (pc := 63) (v := (l3 + (1 : Int32))) (lv' := [(3, .int (l3 + (1 : Int32))), (5, .int v38), (0, va_rf l0), (2, .int l2), (4, .int l4)]) 3 dX0_pass_63 rfl rfl (by decide) rfl ?_
          refine mm_sub C [2, 3, 0, 4] rfl ?_
          exact w_X0_pass_66 hd C (fun z0 z1 z2 z3 z4 hK => ih z0 z1 z2 z3 z4 hK) _ _ _ _ _ hK
def F_X0_pass (a0 : Option Nat) (a1 : Int32) (h : MH) : Option (Int32 × MH) := mm_b2 (cV h a0 0 (F_X0_minute a0 h)) fun v1 h1 => (gR h1 a0 0 1).bind fun v10 => (cV h1 v10 1 (F_X1_start v10 a0 h1)).bind fun h14 => F_X0_pass_20 mm_N a0 (v1 + a1) (0 : Int32) (0 : Int32) h14
set_option maxRecDepth 20000 in
set_option maxHeartbeats 4000000 in
theorem S_X0_pass {d : Nat} (hd : 5 ≤ d) {a0 : Option Nat} {a1 : Int32} {h : MH} {r : Int32} {hz : MH} (hK : F_X0_pass a0 a1 h = some (r, hz)) : mm_M yX0_pass cX0_pass 6 (some .int) d [va_rf a0, .int a1] h (.inr (some (.int r))) hz := by
  refine mm_ofV (by decide +kernel) (by simp [lg_sl, mm_crf, mm_cti, mm_ctl]) (fun V C => ?_)
  rw [show lv_args 0 [va_rf a0, .int a1] = [(0, va_rf a0), (1, .int a1)] by simp [lv_args, mm_crf, mm_cti, mm_ctl]]
  unfold F_X0_pass at hK
  refine mm_aload_n C (pc := 0) 0 dX0_pass_0 rfl ?_
  replace hK := mm_b2s hK; obtain ⟨v1, h1, e1, hK⟩ := hK
  obtain ⟨o1, e1⟩ := cV_some e1
  refine mm_callV C (pc := 1) (d1 := 1) (As := []) (st := []) (vk := (some (.int v1))) ((S_X0_minute (by omega)) e1) tT_X0_minute o1 (Or.inr ⟨_, rfl, rfl⟩) wd_936 wd_937 wd_938 (by omega) (by decide) rfl (by simp [mm_crf, mm_cti, mm_ctl]) rfl dX0_pass_1 ?_
  show V _ _ (.int v1 :: _) _
  refine mm_iload_n C (pc := 4) 1 dX0_pass_4 rfl ?_
  refine mm_iadd C (pc := 5) dX0_pass_5 ?_
  refine mm_istore_n C (pc := 6) (i := 2) (lv' := [(2, .int (v1 + a1)), (0, va_rf a0), (1, .int a1)]) dX0_pass_6 rfl (by decide) rfl ?_
  refine mm_iconst C (pc := 7) (v := (0 : Int32)) dX0_pass_7 (by decide) ?_
  refine mm_istore_n C (pc := 8) (i := 3) (lv' := [(3, .int (0 : Int32)), (2, .int (v1 + a1)), (0, va_rf a0), (1, .int a1)]) dX0_pass_8 rfl (by decide) rfl ?_
  refine mm_aload_n C (pc := 9) 2 dX0_pass_9 rfl ?_
  replace hK := mm_bd hK; obtain ⟨v10, e10, hK⟩ := hK
  refine mm_getr C (pc := 10) (k := 1) inGX0 rfl (by decide) wd_817 dX0_pass_10 e10 ?_
  refine mm_aload_n C (pc := 13) 2 dX0_pass_13 rfl ?_
  replace hK := mm_bd hK; obtain ⟨h14, e14, hK⟩ := hK
  obtain ⟨o14, e14⟩ := cV_some e14
  refine mm_callV C (pc := 14) (d1 := 3) (As := [va_rf a0]) (st := []) (vk := none) ((S_X1_start (by omega)) e14) tT_X1_start o14 (Or.inr ⟨_, rfl, rfl⟩) wd_984 wd_985 wd_986 (by omega) (by decide) rfl (by simp [mm_crf, mm_cti, mm_ctl]) rfl dX0_pass_14 ?_
  show V _ _ [] _
  refine mm_iconst C (pc := 17) (v := (0 : Int32)) dX0_pass_17 (by decide) ?_
  refine mm_istore C (pc := 18) (i := 4) (lv' := [(4, .int (0 : Int32)), (3, .int (0 : Int32)), (2, .int (v1 + a1)), (0, va_rf a0), (1, .int a1)]) dX0_pass_18 (by decide) rfl ?_
  refine mm_sub C [3, 2, 1, 0] rfl ?_
  exact w_X0_pass_20 hd C _ _ _ _ _ _ hK
theorem wd_983 : Cond.code yX0_pass cX0_pass 6 (some .int) ∈ lw_good := mm_wd 983 (by decide +kernel) (by decide +kernel)
theorem tT_X0_pass : mm_T yX0_pass cX0_pass 6 (some .int) 1 := ⟨wd_983, wd_150, by decide +kernel, by decide +kernel, by decide +kernel, by decide +kernel⟩
theorem wd_980 : Cond.methodLink RX11 202 yX0_pass ∈ lw_good := mm_wd 980 (by decide +kernel) (by decide +kernel)
theorem wd_981 : Cond.instanceMethod yX0_pass ∈ lw_good := mm_wd 981 (by decide +kernel) (by decide +kernel)
theorem wd_982 : Cond.selects RX0 yX0_pass yX0_pass ∈ lw_good := mm_wd 982 (by decide +kernel) (by decide +kernel)
def F_X11_minutes (a0 : Option Nat) (a1 : Int32) (h : MH) : Option ((String ⊕ Int32) × MH) := mm_b3 (F_X11_needWithin a1 (1 : Int32) (99 : Int32) h) fun _ h4 => (gR h4 a0 11 6).bind fun v8 => (gR h4 a0 11 5).bind fun v12 => (cV h4 v8 3 (F_X3_keep v8 v12 h4)).bind fun h15 => (gR h15 a0 11 5).bind fun v19 => mm_b2 (cV h15 v19 0 (F_X0_pass v19 a1 h15)) fun v23 h23 => some (.inr v23, h23)
set_option maxRecDepth 20000 in
set_option maxHeartbeats 4000000 in
theorem S_X11_minutes {d : Nat} (hd : 7 ≤ d) {a0 : Option Nat} {a1 : Int32} {h : MH} {r : String ⊕ Int32} {hz : MH} (hK : F_X11_minutes a0 a1 h = some (r, hz)) : mm_M yX11_minutes cX11_minutes 2 (some .int) d [va_rf a0, .int a1] h (mm_oi r) hz := by
  refine mm_ofV (by decide +kernel) (by simp [lg_sl, mm_crf, mm_cti, mm_ctl]) (fun V C => ?_)
  rw [show lv_args 0 [va_rf a0, .int a1] = [(0, va_rf a0), (1, .int a1)] by simp [lv_args, mm_crf, mm_cti, mm_ctl]]
  unfold F_X11_minutes at hK
  refine mm_iload_n C (pc := 0) 1 dX11_minutes_0 rfl ?_
  refine mm_iconst C (pc := 1) (v := (1 : Int32)) dX11_minutes_1 (by decide) ?_
  refine mm_bipush C (pc := 2) (v := (99 : Int32)) dX11_minutes_2 (by decide) ?_
  replace hK := mm_b3s hK; rcases hK with ⟨E4, e4, rfl⟩ | ⟨v4, h4, e4, hK⟩
  · skip
    exact mm_callSX C (pc := 4) (d1 := 6) (As := [.int a1, .int (1 : Int32), .int (99 : Int32)]) (st := []) ((S_X11_needWithin (by omega)) e4) tT_X11_needWithin wd_1163 wd_1164 (by omega) (by decide) rfl (by simp [mm_crf, mm_cti, mm_ctl]) rfl dX11_minutes_4 rfl rfl
  refine mm_callS C (pc := 4) (d1 := 6) (As := [.int a1, .int (1 : Int32), .int (99 : Int32)]) (st := []) (vk := none) ((S_X11_needWithin (by omega)) e4) tT_X11_needWithin wd_1163 wd_1164 (by omega) (by decide) rfl (by simp [mm_crf, mm_cti, mm_ctl]) rfl dX11_minutes_4 ?_
  show V _ _ [] _
  refine mm_aload_n C (pc := 7) 0 dX11_minutes_7 rfl ?_
  replace hK := mm_bd hK; obtain ⟨v8, e8, hK⟩ := hK
  refine mm_getr C (pc := 8) (k := 6) inGX11 rfl (by decide) wd_851 dX11_minutes_8 e8 ?_
  refine mm_aload_n C (pc := 11) 0 dX11_minutes_11 rfl ?_
  replace hK := mm_bd hK; obtain ⟨v12, e12, hK⟩ := hK
  refine mm_getr C (pc := 12) (k := 5) inGX11 rfl (by decide) wd_850 dX11_minutes_12 e12 ?_
  replace hK := mm_bd hK; obtain ⟨h15, e15, hK⟩ := hK
  obtain ⟨o15, e15⟩ := cV_some e15
  refine mm_callV C (pc := 15) (d1 := 2) (As := [va_rf v12]) (st := []) (vk := none) ((S_X3_keep (by omega)) e15) tT_X3_keep o15 (Or.inr ⟨_, rfl, rfl⟩) wd_922 wd_923 wd_924 (by omega) (by decide) rfl (by simp [mm_crf, mm_cti, mm_ctl]) rfl dX11_minutes_15 ?_
  show V _ _ [] _
  refine mm_aload_n C (pc := 18) 0 dX11_minutes_18 rfl ?_
  replace hK := mm_bd hK; obtain ⟨v19, e19, hK⟩ := hK
  refine mm_getr C (pc := 19) (k := 5) inGX11 rfl (by decide) wd_850 dX11_minutes_19 e19 ?_
  refine mm_iload_n C (pc := 22) 1 dX11_minutes_22 rfl ?_
  replace hK := mm_b2s hK; obtain ⟨v23, h23, e23, hK⟩ := hK
  obtain ⟨o23, e23⟩ := cV_some e23
  refine mm_callV C (pc := 23) (d1 := 5) (As := [.int a1]) (st := []) (vk := (some (.int v23))) ((S_X0_pass (by omega)) e23) tT_X0_pass o23 (Or.inr ⟨_, rfl, rfl⟩) wd_980 wd_981 wd_982 (by omega) (by decide) rfl (by simp [mm_crf, mm_cti, mm_ctl]) rfl dX11_minutes_23 ?_
  show V _ _ (.int v23 :: _) _
  cases hK
  exact mm_iret C (pc := 26) rfl dX11_minutes_26 rfl rfl
def F_X3_many (a0 : Option Nat) (h : MH) : Option (Int32 × MH) := (gI h a0 3 2).bind fun v1 => some (v1, h)
set_option maxRecDepth 20000 in
set_option maxHeartbeats 4000000 in
theorem S_X3_many {d : Nat} (hd : 1 ≤ d) {a0 : Option Nat} {h : MH} {r : Int32} {hz : MH} (hK : F_X3_many a0 h = some (r, hz)) : mm_M yX3_many cX3_many 1 (some .int) d [va_rf a0] h (.inr (some (.int r))) hz := by
  refine mm_ofV (by decide +kernel) (by simp [lg_sl, mm_crf, mm_cti, mm_ctl]) (fun V C => ?_)
  rw [show lv_args 0 [va_rf a0] = [(0, va_rf a0)] by simp [lv_args, mm_crf, mm_cti, mm_ctl]]
  unfold F_X3_many at hK
  refine mm_aload_n C (pc := 0) 0 dX3_many_0 rfl ?_
  replace hK := mm_bd hK; obtain ⟨v1, e1, hK⟩ := hK
  refine mm_geti C (pc := 1) (k := 2) inGX3 rfl (by decide) wd_191 dX3_many_1 e1 ?_
  cases hK
  exact mm_iret C (pc := 4) rfl dX3_many_4 rfl rfl
def F_X0_takeFrom_25 (h : MH) : Option MH := some h
set_option maxRecDepth 20000 in
set_option maxHeartbeats 4000000 in
theorem w_X0_takeFrom_25 {d : Nat} {V : Nat → List (Nat × Value) → List Value → MH → Prop} {hz : MH} (hd : 1 ≤ d) (C : mm_C d yX0_takeFrom cX0_takeFrom 3 none (.inr none) hz V) (h : MH) (hK : F_X0_takeFrom_25  h = some hz) : V 25 [] [] h := by
  unfold F_X0_takeFrom_25 at hK
  cases hK
  exact mm_vret C (pc := 25) rfl dX0_takeFrom_25 rfl rfl
def F_X0_takeFrom (a0 : Option Nat) (a1 : Option Nat) (a2 : Int32) (h : MH) : Option MH := if a2 < 0 then (F_X0_takeFrom_25 h) else ((aNt h a1 0).bind fun v6 => if (v6 - (81 : Int32)) < a2 then (F_X0_takeFrom_25 h) else ((gR h a0 0 0).bind fun v16 => (cpI h a1 a2 v16 (0 : Int32) (81 : Int32)).bind fun h22 => F_X0_takeFrom_25 h22))
set_option maxRecDepth 20000 in
set_option maxHeartbeats 4000000 in
theorem S_X0_takeFrom {d : Nat} (hd : 1 ≤ d) {a0 : Option Nat} {a1 : Option Nat} {a2 : Int32} {h : MH} {hz : MH} (hK : F_X0_takeFrom a0 a1 a2 h = some hz) : mm_M yX0_takeFrom cX0_takeFrom 3 none d [va_rf a0, va_rf a1, .int a2] h (.inr none) hz := by
  refine mm_ofV (by decide +kernel) (by simp [lg_sl, mm_crf, mm_cti, mm_ctl]) (fun V C => ?_)
  rw [show lv_args 0 [va_rf a0, va_rf a1, .int a2] = [(0, va_rf a0), (1, va_rf a1), (2, .int a2)] by simp [lv_args, mm_crf, mm_cti, mm_ctl]]
  unfold F_X0_takeFrom at hK
  refine mm_iload_n C (pc := 0) 2 dX0_takeFrom_0 rfl ?_
  refine mm_if_lt C (pc := 1) (tgt := 25) dX0_takeFrom_1 (by decide) (fun hc => ?_) (fun hc => ?_)
  · replace hK := mm_ip hc hK
    refine mm_sub C [] rfl ?_
    exact w_X0_takeFrom_25 hd C _ hK
  · replace hK := mm_in hc hK
    refine mm_iload_n C (pc := 4) 2 dX0_takeFrom_4 rfl ?_
    refine mm_aload_n C (pc := 5) 1 dX0_takeFrom_5 rfl ?_
    replace hK := mm_bd hK; obtain ⟨v6, e6, hK⟩ := hK
    refine mm_alenI C (pc := 6) dX0_takeFrom_6 e6 ?_
    refine mm_bipush C (pc := 7) (v := (81 : Int32)) dX0_takeFrom_7 (by decide) ?_
    refine mm_isub C (pc := 9) dX0_takeFrom_9 ?_
    refine mm_icmp_gt C (pc := 10) (tgt := 25) dX0_takeFrom_10 (by decide) (fun hc => ?_) (fun hc => ?_)
    · replace hK := mm_ip hc hK
      refine mm_sub C [] rfl ?_
      exact w_X0_takeFrom_25 hd C _ hK
    · replace hK := mm_in hc hK
      refine mm_aload_n C (pc := 13) 1 dX0_takeFrom_13 rfl ?_
      refine mm_iload_n C (pc := 14) 2 dX0_takeFrom_14 rfl ?_
      refine mm_aload_n C (pc := 15) 0 dX0_takeFrom_15 rfl ?_
      replace hK := mm_bd hK; obtain ⟨v16, e16, hK⟩ := hK
      refine mm_getr C (pc := 16) (k := 0) inGX0 rfl (by decide) wd_816 dX0_takeFrom_16 e16 ?_
      refine mm_iconst C (pc := 19) (v := (0 : Int32)) dX0_takeFrom_19 (by decide) ?_
      refine mm_bipush C (pc := 20) (v := (81 : Int32)) dX0_takeFrom_20 (by decide) ?_
      replace hK := mm_bd hK; obtain ⟨h22, e22, hK⟩ := hK
      refine mm_copy C (pc := 22) wd_930 wd_554 wd_553 wd_166 (by omega) (by simp [mm_crf, mm_cti, mm_ctl]) dX0_takeFrom_22 e22 ?_
      refine mm_sub C [] rfl ?_
      exact w_X0_takeFrom_25 hd C _ hK
theorem wd_1527 : Cond.methodLink RX3 34 yJ9_floorMod_7cf53 ∈ lw_good := mm_wd 1527 (by decide +kernel) (by decide +kernel)
theorem wd_1528 : Cond.methodLink RX3 37 yJ9_max_7cf53 ∈ lw_good := mm_wd 1528 (by decide +kernel) (by decide +kernel)
theorem wd_1532 : Cond.code yX0_takeFrom cX0_takeFrom 3 none ∈ lw_good := mm_wd 1532 (by decide +kernel) (by decide +kernel)
theorem tT_X0_takeFrom : mm_T yX0_takeFrom cX0_takeFrom 3 none 2 := ⟨wd_1532, wd_150, by decide +kernel, by decide +kernel, by decide +kernel, by decide +kernel⟩
theorem wd_1529 : Cond.methodLink RX3 40 yX0_takeFrom ∈ lw_good := mm_wd 1529 (by decide +kernel) (by decide +kernel)
theorem wd_1530 : Cond.instanceMethod yX0_takeFrom ∈ lw_good := mm_wd 1530 (by decide +kernel) (by decide +kernel)
theorem wd_1531 : Cond.selects RX0 yX0_takeFrom yX0_takeFrom ∈ lw_good := mm_wd 1531 (by decide +kernel) (by decide +kernel)
def F_X3_takeBack (a0 : Option Nat) (a1 : Option Nat) (a2 : Int32) (h : MH) : Option MH := (gI h a0 3 1).bind fun v2 => if (10 : Int32) = 0 then none else (pI h a0 3 1 (mm_fm (v2 - a2) (10 : Int32))).bind fun h12 => (gI h12 a0 3 2).bind fun v18 => (pI h12 a0 3 2 (mxI (0 : Int32) (v18 - a2))).bind fun h26 => (gR h26 a0 3 0).bind fun v31 => (gI h26 a0 3 1).bind fun v35 => (cV h26 a1 0 (F_X0_takeFrom a1 v31 (v35 * (81 : Int32)) h26)).bind fun h41 => some h41
set_option maxRecDepth 20000 in
set_option maxHeartbeats 4000000 in
theorem S_X3_takeBack {d : Nat} (hd : 2 ≤ d) {a0 : Option Nat} {a1 : Option Nat} {a2 : Int32} {h : MH} {hz : MH} (hK : F_X3_takeBack a0 a1 a2 h = some hz) : mm_M yX3_takeBack cX3_takeBack 3 none d [va_rf a0, va_rf a1, .int a2] h (.inr none) hz := by
  refine mm_ofV (by decide +kernel) (by simp [lg_sl, mm_crf, mm_cti, mm_ctl]) (fun V C => ?_)
  rw [show lv_args 0 [va_rf a0, va_rf a1, .int a2] = [(0, va_rf a0), (1, va_rf a1), (2, .int a2)] by simp [lv_args, mm_crf, mm_cti, mm_ctl]]
  unfold F_X3_takeBack at hK
  refine mm_aload_n C (pc := 0) 0 dX3_takeBack_0 rfl ?_
  refine mm_aload_n C (pc := 1) 0 dX3_takeBack_1 rfl ?_
  replace hK := mm_bd hK; obtain ⟨v2, e2, hK⟩ := hK
  refine mm_geti C (pc := 2) (k := 1) inGX3 rfl (by decide) wd_190 dX3_takeBack_2 e2 ?_
  refine mm_iload_n C (pc := 5) 2 dX3_takeBack_5 rfl ?_
  refine mm_isub C (pc := 6) dX3_takeBack_6 ?_
  refine mm_bipush C (pc := 7) (v := (10 : Int32)) dX3_takeBack_7 (by decide) ?_
  by_cases hz9 : (10 : Int32) = 0
  · rw [if_pos hz9] at hK; cases hK
  replace hK := mm_in hz9 hK
  refine mm_fmod C (pc := 9) hz9 wd_1527 wd_1036 wd_152 wd_1037 (by omega) (by simp [mm_crf, mm_cti, mm_ctl]) dX3_takeBack_9 ?_
  replace hK := mm_bd hK; obtain ⟨h12, e12, hK⟩ := hK
  refine mm_puti C (pc := 12) (k := 1) false (fun z => by cases z) inGX3 tyX3 tyX3_ok nmX3 rfl (by decide) wd_190 rfl rfl dX3_takeBack_12 e12 ?_
  refine mm_aload_n C (pc := 15) 0 dX3_takeBack_15 rfl ?_
  refine mm_iconst C (pc := 16) (v := (0 : Int32)) dX3_takeBack_16 (by decide) ?_
  refine mm_aload_n C (pc := 17) 0 dX3_takeBack_17 rfl ?_
  replace hK := mm_bd hK; obtain ⟨v18, e18, hK⟩ := hK
  refine mm_geti C (pc := 18) (k := 2) inGX3 rfl (by decide) wd_191 dX3_takeBack_18 e18 ?_
  refine mm_iload_n C (pc := 21) 2 dX3_takeBack_21 rfl ?_
  refine mm_isub C (pc := 22) dX3_takeBack_22 ?_
  refine mm_mmax C (pc := 23) wd_1528 wd_412 wd_152 wd_413 (by omega) (by simp [mm_crf, mm_cti, mm_ctl]) dX3_takeBack_23 ?_
  replace hK := mm_bd hK; obtain ⟨h26, e26, hK⟩ := hK
  refine mm_puti C (pc := 26) (k := 2) false (fun z => by cases z) inGX3 tyX3 tyX3_ok nmX3 rfl (by decide) wd_191 rfl rfl dX3_takeBack_26 e26 ?_
  refine mm_aload_n C (pc := 29) 1 dX3_takeBack_29 rfl ?_
  refine mm_aload_n C (pc := 30) 0 dX3_takeBack_30 rfl ?_
  replace hK := mm_bd hK; obtain ⟨v31, e31, hK⟩ := hK
  refine mm_getr C (pc := 31) (k := 0) inGX3 rfl (by decide) wd_189 dX3_takeBack_31 e31 ?_
  refine mm_aload_n C (pc := 34) 0 dX3_takeBack_34 rfl ?_
  replace hK := mm_bd hK; obtain ⟨v35, e35, hK⟩ := hK
  refine mm_geti C (pc := 35) (k := 1) inGX3 rfl (by decide) wd_190 dX3_takeBack_35 e35 ?_
  refine mm_bipush C (pc := 38) (v := (81 : Int32)) dX3_takeBack_38 (by decide) ?_
  refine mm_imul C (pc := 40) dX3_takeBack_40 ?_
  replace hK := mm_bd hK; obtain ⟨h41, e41, hK⟩ := hK
  obtain ⟨o41, e41⟩ := cV_some e41
  refine mm_callV C (pc := 41) (d1 := 1) (As := [va_rf v31, .int (v35 * (81 : Int32))]) (st := []) (vk := none) ((S_X0_takeFrom (by omega)) e41) tT_X0_takeFrom o41 (Or.inr ⟨_, rfl, rfl⟩) wd_1529 wd_1530 wd_1531 (by omega) (by decide) rfl (by simp [mm_crf, mm_cti, mm_ctl]) rfl dX3_takeBack_41 ?_
  show V _ _ [] _
  cases hK
  exact mm_vret C (pc := 44) rfl dX3_takeBack_44 rfl rfl
theorem wd_1154 : Cond.code yX3_many cX3_many 1 (some .int) ∈ lw_good := mm_wd 1154 (by decide +kernel) (by decide +kernel)
theorem tT_X3_many : mm_T yX3_many cX3_many 1 (some .int) 0 := ⟨wd_1154, wd_143, by decide +kernel, by decide +kernel, by decide +kernel, by decide +kernel⟩
theorem wd_1151 : Cond.methodLink RX11 205 yX3_many ∈ lw_good := mm_wd 1151 (by decide +kernel) (by decide +kernel)
theorem wd_1152 : Cond.instanceMethod yX3_many ∈ lw_good := mm_wd 1152 (by decide +kernel) (by decide +kernel)
theorem wd_1153 : Cond.selects RX3 yX3_many yX3_many ∈ lw_good := mm_wd 1153 (by decide +kernel) (by decide +kernel)
theorem wd_1526 : Cond.code yX3_takeBack cX3_takeBack 3 none ∈ lw_good := mm_wd 1526 (by decide +kernel) (by decide +kernel)
theorem tT_X3_takeBack : mm_T yX3_takeBack cX3_takeBack 3 none 2 := ⟨wd_1526, wd_143, by decide +kernel, by decide +kernel, by decide +kernel, by decide +kernel⟩
theorem wd_1523 : Cond.methodLink RX11 208 yX3_takeBack ∈ lw_good := mm_wd 1523 (by decide +kernel) (by decide +kernel)
theorem wd_1524 : Cond.instanceMethod yX3_takeBack ∈ lw_good := mm_wd 1524 (by decide +kernel) (by decide +kernel)
theorem wd_1525 : Cond.selects RX3 yX3_takeBack yX3_takeBack ∈ lw_good := mm_wd 1525 (by decide +kernel) (by decide +kernel)
def F_X11_undo (a0 : Option Nat) (a1 : Int32) (h : MH) : Option ((String ⊕ Int32) × MH) := (gR h a0 11 6).bind fun v3 => mm_b2 (cV h v3 3 (F_X3_many v3 h)) fun v6 h6 => mm_b3 (F_X11_needWithin a1 (1 : Int32) v6 h6) fun _ h9 => (gR h9 a0 11 6).bind fun v13 => (gR h9 a0 11 5).bind fun v17 => (cV h9 v13 3 (F_X3_takeBack v13 v17 a1 h9)).bind fun h21 => (gR h21 a0 11 6).bind fun v25 => mm_b2 (cV h21 v25 3 (F_X3_many v25 h21)) fun v28 h28 => some (.inr v28, h28)
set_option maxRecDepth 20000 in
set_option maxHeartbeats 4000000 in
theorem S_X11_undo {d : Nat} (hd : 7 ≤ d) {a0 : Option Nat} {a1 : Int32} {h : MH} {r : String ⊕ Int32} {hz : MH} (hK : F_X11_undo a0 a1 h = some (r, hz)) : mm_M yX11_undo cX11_undo 2 (some .int) d [va_rf a0, .int a1] h (mm_oi r) hz := by
  refine mm_ofV (by decide +kernel) (by simp [lg_sl, mm_crf, mm_cti, mm_ctl]) (fun V C => ?_)
  rw [show lv_args 0 [va_rf a0, .int a1] = [(0, va_rf a0), (1, .int a1)] by simp [lv_args, mm_crf, mm_cti, mm_ctl]]
  unfold F_X11_undo at hK
  refine mm_iload_n C (pc := 0) 1 dX11_undo_0 rfl ?_
  refine mm_iconst C (pc := 1) (v := (1 : Int32)) dX11_undo_1 (by decide) ?_
  refine mm_aload_n C (pc := 2) 0 dX11_undo_2 rfl ?_
  replace hK := mm_bd hK; obtain ⟨v3, e3, hK⟩ := hK
  refine mm_getr C (pc := 3) (k := 6) inGX11 rfl (by decide) wd_851 dX11_undo_3 e3 ?_
  replace hK := mm_b2s hK; obtain ⟨v6, h6, e6, hK⟩ := hK
  obtain ⟨o6, e6⟩ := cV_some e6
  refine mm_callV C (pc := 6) (d1 := 1) (As := []) (st := [.int (1 : Int32), .int a1]) (vk := (some (.int v6))) ((S_X3_many (by omega)) e6) tT_X3_many o6 (Or.inr ⟨_, rfl, rfl⟩) wd_1151 wd_1152 wd_1153 (by omega) (by decide) rfl (by simp [mm_crf, mm_cti, mm_ctl]) rfl dX11_undo_6 ?_
  show V _ _ (.int v6 :: _) _
  replace hK := mm_b3s hK; rcases hK with ⟨E9, e9, rfl⟩ | ⟨v9, h9, e9, hK⟩
  · skip
    exact mm_callSX C (pc := 9) (d1 := 6) (As := [.int a1, .int (1 : Int32), .int v6]) (st := []) ((S_X11_needWithin (by omega)) e9) tT_X11_needWithin wd_1163 wd_1164 (by omega) (by decide) rfl (by simp [mm_crf, mm_cti, mm_ctl]) rfl dX11_undo_9 rfl rfl
  refine mm_callS C (pc := 9) (d1 := 6) (As := [.int a1, .int (1 : Int32), .int v6]) (st := []) (vk := none) ((S_X11_needWithin (by omega)) e9) tT_X11_needWithin wd_1163 wd_1164 (by omega) (by decide) rfl (by simp [mm_crf, mm_cti, mm_ctl]) rfl dX11_undo_9 ?_
  show V _ _ [] _
  refine mm_aload_n C (pc := 12) 0 dX11_undo_12 rfl ?_
  replace hK := mm_bd hK; obtain ⟨v13, e13, hK⟩ := hK
  refine mm_getr C (pc := 13) (k := 6) inGX11 rfl (by decide) wd_851 dX11_undo_13 e13 ?_
  refine mm_aload_n C (pc := 16) 0 dX11_undo_16 rfl ?_
  replace hK := mm_bd hK; obtain ⟨v17, e17, hK⟩ := hK
  refine mm_getr C (pc := 17) (k := 5) inGX11 rfl (by decide) wd_850 dX11_undo_17 e17 ?_
  refine mm_iload_n C (pc := 20) 1 dX11_undo_20 rfl ?_
  replace hK := mm_bd hK; obtain ⟨h21, e21, hK⟩ := hK
  obtain ⟨o21, e21⟩ := cV_some e21
  refine mm_callV C (pc := 21) (d1 := 2) (As := [va_rf v17, .int a1]) (st := []) (vk := none) ((S_X3_takeBack (by omega)) e21) tT_X3_takeBack o21 (Or.inr ⟨_, rfl, rfl⟩) wd_1523 wd_1524 wd_1525 (by omega) (by decide) rfl (by simp [mm_crf, mm_cti, mm_ctl]) rfl dX11_undo_21 ?_
  show V _ _ [] _
  refine mm_aload_n C (pc := 24) 0 dX11_undo_24 rfl ?_
  replace hK := mm_bd hK; obtain ⟨v25, e25, hK⟩ := hK
  refine mm_getr C (pc := 25) (k := 6) inGX11 rfl (by decide) wd_851 dX11_undo_25 e25 ?_
  replace hK := mm_b2s hK; obtain ⟨v28, h28, e28, hK⟩ := hK
  obtain ⟨o28, e28⟩ := cV_some e28
  refine mm_callV C (pc := 28) (d1 := 1) (As := []) (st := []) (vk := (some (.int v28))) ((S_X3_many (by omega)) e28) tT_X3_many o28 (Or.inr ⟨_, rfl, rfl⟩) wd_1151 wd_1152 wd_1153 (by omega) (by decide) rfl (by simp [mm_crf, mm_cti, mm_ctl]) rfl dX11_undo_28 ?_
  show V _ _ (.int v28 :: _) _
  cases hK
  exact mm_iret C (pc := 31) rfl dX11_undo_31 rfl rfl
def F_X11_anyTray_9 (h : MH) : Option ((String ⊕ Option Nat) × MH) := (tH h).bind fun h9 => some (.inl "java/util/NoSuchElementException", h9)
set_option maxRecDepth 20000 in
set_option maxHeartbeats 4000000 in
theorem w_X11_anyTray_9 {d : Nat} {V : Nat → List (Nat × Value) → List Value → MH → Prop} {r : String ⊕ Option Nat} {hz : MH} (hd : 6 ≤ d) (C : mm_C d yX11_anyTray cX11_anyTray 2 (some (.object "CrossedLines$Tray")) (mm_oa r) hz V) (h : MH) (hK : F_X11_anyTray_9  h = some (r, hz)) : V 9 [] [] h := by
  unfold F_X11_anyTray_9 at hK
  replace hK := mm_bd hK; obtain ⟨h9, e9, hK⟩ := hK
  cases hK
  exact mm_throwNW C (pc := 9) (i := 23) tW_X11_153_157 (by rfl) dX11_anyTray_9 dX11_anyTray_12 dX11_anyTray_13 dX11_anyTray_16 dX11_anyTray_19 (by omega) (by simp [mm_crf, mm_cti, mm_ctl]) rfl e9
def F_X11_anyTray (a0 : Option Nat) (a1 : Int32) (h : MH) : Option ((String ⊕ Option Nat) × MH) := if a1 < 0 then (F_X11_anyTray_9 h) else (if a1 < (4 : Int32) then ((gR h a0 11 10).bind fun v21 => (aR h v21 4 a1).bind fun v25 => some (.inr v25, h)) else (F_X11_anyTray_9 h))
set_option maxRecDepth 20000 in
set_option maxHeartbeats 4000000 in
theorem S_X11_anyTray {d : Nat} (hd : 6 ≤ d) {a0 : Option Nat} {a1 : Int32} {h : MH} {r : String ⊕ Option Nat} {hz : MH} (hK : F_X11_anyTray a0 a1 h = some (r, hz)) : mm_M yX11_anyTray cX11_anyTray 2 (some (.object "CrossedLines$Tray")) d [va_rf a0, .int a1] h (mm_oa r) hz := by
  refine mm_ofV (by decide +kernel) (by simp [lg_sl, mm_crf, mm_cti, mm_ctl]) (fun V C => ?_)
  rw [show lv_args 0 [va_rf a0, .int a1] = [(0, va_rf a0), (1, .int a1)] by simp [lv_args, mm_crf, mm_cti, mm_ctl]]
  unfold F_X11_anyTray at hK
  refine mm_iload_n C (pc := 0) 1 dX11_anyTray_0 rfl ?_
  refine mm_if_lt C (pc := 1) (tgt := 9) dX11_anyTray_1 (by decide) (fun hc => ?_) (fun hc => ?_)
  · replace hK := mm_ip hc hK
    refine mm_sub C [] rfl ?_
    exact w_X11_anyTray_9 hd C _ hK
  · replace hK := mm_in hc hK
    refine mm_iload_n C (pc := 4) 1 dX11_anyTray_4 rfl ?_
    refine mm_iconst C (pc := 5) (v := (4 : Int32)) dX11_anyTray_5 (by decide) ?_
    refine mm_icmp_lt C (pc := 6) (tgt := 20) dX11_anyTray_6 (by decide) (fun hc => ?_) (fun hc => ?_)
    · replace hK := mm_ip hc hK
      refine mm_aload_n C (pc := 20) 0 dX11_anyTray_20 rfl ?_
      replace hK := mm_bd hK; obtain ⟨v21, e21, hK⟩ := hK
      refine mm_getr C (pc := 21) (k := 10) inGX11 rfl (by decide) wd_855 dX11_anyTray_21 e21 ?_
      refine mm_iload_n C (pc := 24) 1 dX11_anyTray_24 rfl ?_
      replace hK := mm_bd hK; obtain ⟨v25, e25, hK⟩ := hK
      refine mm_aald C (pc := 25) (fun _ => rfl) ⟨by decide, by decide⟩ dX11_anyTray_25 e25 ?_
      cases hK
      exact mm_aret C (pc := 26) rfl (Or.inl ⟨_, rfl⟩) dX11_anyTray_26 rfl rfl
    · replace hK := mm_in hc hK
      refine mm_sub C [] rfl ?_
      exact w_X11_anyTray_9 hd C _ hK
def F_X10_isMissing_13 (s0 : Int32) (h : MH) : Option (Int32 × MH) := rZ s0 h
set_option maxRecDepth 20000 in
set_option maxHeartbeats 4000000 in
theorem w_X10_isMissing_13 {d : Nat} {V : Nat → List (Nat × Value) → List Value → MH → Prop} {r : Int32} {hz : MH} (hd : 1 ≤ d) (C : mm_C d yX10_isMissing cX10_isMissing 1 (some .boolean) (.inr (some (.int r))) hz V) (s0 : Int32) (h : MH) (hK : F_X10_isMissing_13 s0 h = some (r, hz)) : V 13 [] [.int s0] h := by
  unfold F_X10_isMissing_13 at hK
  replace hK := rZ_some hK; obtain ⟨hv13, hK⟩ := hK
  cases hK
  exact mm_zret C (pc := 13) rfl (mm_nrZ hv13) dX10_isMissing_13 rfl rfl
def F_X10_isMissing (a0 : Option Nat) (h : MH) : Option (Int32 × MH) := (gI h a0 10 2).bind fun v1 => if v1 = ((-1) : Int32) then (F_X10_isMissing_13 (1 : Int32) h) else (F_X10_isMissing_13 (0 : Int32) h)
set_option maxRecDepth 20000 in
set_option maxHeartbeats 4000000 in
theorem S_X10_isMissing {d : Nat} (hd : 1 ≤ d) {a0 : Option Nat} {h : MH} {r : Int32} {hz : MH} (hK : F_X10_isMissing a0 h = some (r, hz)) : mm_M yX10_isMissing cX10_isMissing 1 (some .boolean) d [va_rf a0] h (.inr (some (.int r))) hz := by
  refine mm_ofV (by decide +kernel) (by simp [lg_sl, mm_crf, mm_cti, mm_ctl]) (fun V C => ?_)
  rw [show lv_args 0 [va_rf a0] = [(0, va_rf a0)] by simp [lv_args, mm_crf, mm_cti, mm_ctl]]
  unfold F_X10_isMissing at hK
  refine mm_aload_n C (pc := 0) 0 dX10_isMissing_0 rfl ?_
  replace hK := mm_bd hK; obtain ⟨v1, e1, hK⟩ := hK
  refine mm_geti C (pc := 1) (k := 2) inGX10 rfl (by decide) wd_836 dX10_isMissing_1 e1 ?_
  refine mm_iconst C (pc := 4) (v := ((-1) : Int32)) dX10_isMissing_4 (by decide) ?_
  refine mm_icmp_ne C (pc := 5) (tgt := 12) dX10_isMissing_5 (by decide) (fun hc => ?_) (fun hc => ?_)
  · replace hK := mm_in hc hK
    refine mm_iconst C (pc := 12) (v := (0 : Int32)) dX10_isMissing_12 (by decide) ?_
    refine mm_sub C [] rfl ?_
    exact w_X10_isMissing_13 hd C _ _ hK
  · replace hK := mm_ip hc hK
    refine mm_iconst C (pc := 8) (v := (1 : Int32)) dX10_isMissing_8 (by decide) ?_
    refine mm_goto C (pc := 9) (tgt := 13) dX10_isMissing_9 (by decide) ?_
    refine mm_sub C [] rfl ?_
    exact w_X10_isMissing_13 hd C _ _ hK
theorem wd_1548 : Cond.code yX11_anyTray cX11_anyTray 2 (some (.object "CrossedLines$Tray")) ∈ lw_good := mm_wd 1548 (by decide +kernel) (by decide +kernel)
theorem tT_X11_anyTray : mm_T yX11_anyTray cX11_anyTray 2 (some (.object "CrossedLines$Tray")) 1 := ⟨wd_1548, wd_142, by decide +kernel, by decide +kernel, by decide +kernel, by decide +kernel⟩
theorem wd_1545 : Cond.methodLink RX11 391 yX11_anyTray ∈ lw_good := mm_wd 1545 (by decide +kernel) (by decide +kernel)
theorem wd_1547 : Cond.instanceMethod yX11_anyTray ∈ lw_good := mm_wd 1547 (by decide +kernel) (by decide +kernel)
theorem wd_41 : Cond.selects RX11 yX11_anyTray yX11_anyTray ∈ lw_good := mm_wd 41 (by decide +kernel) (by decide +kernel)
theorem wd_1553 : Cond.code yX10_isMissing cX10_isMissing 1 (some .boolean) ∈ lw_good := mm_wd 1553 (by decide +kernel) (by decide +kernel)
theorem tT_X10_isMissing : mm_T yX10_isMissing cX10_isMissing 1 (some .boolean) 0 := ⟨wd_1553, wd_169, by decide +kernel, by decide +kernel, by decide +kernel, by decide +kernel⟩
theorem wd_1550 : Cond.methodLink RX11 428 yX10_isMissing ∈ lw_good := mm_wd 1550 (by decide +kernel) (by decide +kernel)
theorem wd_1551 : Cond.instanceMethod yX10_isMissing ∈ lw_good := mm_wd 1551 (by decide +kernel) (by decide +kernel)
theorem wd_1552 : Cond.selects RX10 yX10_isMissing yX10_isMissing ∈ lw_good := mm_wd 1552 (by decide +kernel) (by decide +kernel)
theorem wd_1554 : Cond.classLink RX11 413 "java/lang/IllegalStateException" ∈ lw_good := mm_wd 1554 (by decide +kernel) (by decide +kernel)
theorem wd_173 : Cond.initialized "java/lang/IllegalStateException" ∈ lw_good := mm_wd 173 (by decide +kernel) (by decide +kernel)
theorem tW_X11_413_417 : mm_Tw RX11 "java/lang/IllegalStateException" 413 417 := ⟨⟨by decide +kernel, wd_1554, wd_173⟩, mm_fg (by decide +kernel), mm_fn (by decide +kernel), by decide +kernel⟩
def F_X11_toldTray (a0 : Option Nat) (a1 : Int32) (h : MH) : Option ((String ⊕ Option Nat) × MH) := mm_b3 (cV h a0 11 (F_X11_anyTray a0 a1 h)) fun v2 h2 => mm_b2 (cV h2 v2 10 (F_X10_isMissing v2 h2)) fun v7 h7 => if v7 = 0 then (some (.inr v2, h7)) else ((tH h7).bind fun h13 => some (.inl "java/lang/IllegalStateException", h13))
set_option maxRecDepth 20000 in
set_option maxHeartbeats 4000000 in
theorem S_X11_toldTray {d : Nat} (hd : 7 ≤ d) {a0 : Option Nat} {a1 : Int32} {h : MH} {r : String ⊕ Option Nat} {hz : MH} (hK : F_X11_toldTray a0 a1 h = some (r, hz)) : mm_M yX11_toldTray cX11_toldTray 3 (some (.object "CrossedLines$Tray")) d [va_rf a0, .int a1] h (mm_oa r) hz := by
  refine mm_ofV (by decide +kernel) (by simp [lg_sl, mm_crf, mm_cti, mm_ctl]) (fun V C => ?_)
  rw [show lv_args 0 [va_rf a0, .int a1] = [(0, va_rf a0), (1, .int a1)] by simp [lv_args, mm_crf, mm_cti, mm_ctl]]
  unfold F_X11_toldTray at hK
  refine mm_aload_n C (pc := 0) 0 dX11_toldTray_0 rfl ?_
  refine mm_iload_n C (pc := 1) 1 dX11_toldTray_1 rfl ?_
  replace hK := mm_b3s hK; rcases hK with ⟨E2, e2, rfl⟩ | ⟨v2, h2, e2, hK⟩
  · obtain ⟨o2, e2⟩ := cV_some e2
    exact mm_callVX C (pc := 2) (d1 := 6) (As := [.int a1]) (st := []) ((S_X11_anyTray (by omega)) e2) tT_X11_anyTray o2 (Or.inr ⟨_, rfl, rfl⟩) wd_1545 wd_1547 wd_41 (by omega) (by decide) rfl (by simp [mm_crf, mm_cti, mm_ctl]) rfl dX11_toldTray_2 rfl rfl
  obtain ⟨o2, e2⟩ := cV_some e2
  refine mm_callV C (pc := 2) (d1 := 6) (As := [.int a1]) (st := []) (vk := (some (va_rf v2))) ((S_X11_anyTray (by omega)) e2) tT_X11_anyTray o2 (Or.inr ⟨_, rfl, rfl⟩) wd_1545 wd_1547 wd_41 (by omega) (by decide) rfl (by simp [mm_crf, mm_cti, mm_ctl]) rfl dX11_toldTray_2 ?_
  show V _ _ (va_rf v2 :: _) _
  refine mm_astore_n C (pc := 5) (i := 2) (lv' := [(2, va_rf v2), (0, va_rf a0), (1, .int a1)]) dX11_toldTray_5 rfl (by decide) rfl ?_
  refine mm_aload_n C (pc := 6) 0 dX11_toldTray_6 rfl ?_
  replace hK := mm_b2s hK; obtain ⟨v7, h7, e7, hK⟩ := hK
  obtain ⟨o7, e7⟩ := cV_some e7
  refine mm_callV C (pc := 7) (d1 := 1) (As := []) (st := []) (vk := (some (.int v7))) ((S_X10_isMissing (by omega)) e7) tT_X10_isMissing o7 (Or.inr ⟨_, rfl, rfl⟩) wd_1550 wd_1551 wd_1552 (by omega) (by decide) rfl (by simp [mm_crf, mm_cti, mm_ctl]) rfl dX11_toldTray_7 ?_
  show V _ _ (.int v7 :: _) _
  refine mm_if_eq C (pc := 10) (tgt := 24) dX11_toldTray_10 (by decide) (fun hc => ?_) (fun hc => ?_)
  · replace hK := mm_ip hc hK
    refine mm_aload_n C (pc := 24) 0 dX11_toldTray_24 rfl ?_
    cases hK
    exact mm_aret C (pc := 25) rfl (Or.inl ⟨_, rfl⟩) dX11_toldTray_25 rfl rfl
  · replace hK := mm_in hc hK
    replace hK := mm_bd hK; obtain ⟨h13, e13, hK⟩ := hK
    cases hK
    exact mm_throwW C (pc := 13) (i := 24) tW_X11_413_417 (by rfl) dX11_toldTray_13 dX11_toldTray_16 dX11_toldTray_17 dX11_toldTray_20 dX11_toldTray_23 (by omega) (by simp [mm_crf, mm_cti, mm_ctl]) rfl e13
def F_X0_become (a0 : Option Nat) (a1 : Option Nat) (h : MH) : Option MH := (gR h a1 0 2).bind fun v2 => (pR h a0 0 2 v2).bind fun h5 => (gR h5 a1 0 0).bind fun v9 => (gR h5 a0 0 0).bind fun v14 => (cpI h5 v9 (0 : Int32) v14 (0 : Int32) (81 : Int32)).bind fun h20 => some h20
set_option maxRecDepth 20000 in
set_option maxHeartbeats 4000000 in
theorem S_X0_become {d : Nat} (hd : 1 ≤ d) {a0 : Option Nat} {a1 : Option Nat} {h : MH} {hz : MH} (hK : F_X0_become a0 a1 h = some hz) : mm_M yX0_become cX0_become 2 none d [va_rf a0, va_rf a1] h (.inr none) hz := by
  refine mm_ofV (by decide +kernel) (by simp [lg_sl, mm_crf, mm_cti, mm_ctl]) (fun V C => ?_)
  rw [show lv_args 0 [va_rf a0, va_rf a1] = [(0, va_rf a0), (1, va_rf a1)] by simp [lv_args, mm_crf, mm_cti, mm_ctl]]
  unfold F_X0_become at hK
  refine mm_aload_n C (pc := 0) 0 dX0_become_0 rfl ?_
  refine mm_aload_n C (pc := 1) 1 dX0_become_1 rfl ?_
  replace hK := mm_bd hK; obtain ⟨v2, e2, hK⟩ := hK
  refine mm_getr C (pc := 2) (k := 2) inGX0 rfl (by decide) wd_818 dX0_become_2 e2 ?_
  replace hK := mm_bd hK; obtain ⟨h5, e5, hK⟩ := hK
  refine mm_putr C (pc := 5) (k := 2) false (fun z => by cases z) inGX0 tyX0 tyX0_ok nmX0 rfl (by decide) wd_818 rfl rfl dX0_become_5 e5 ?_
  refine mm_aload_n C (pc := 8) 1 dX0_become_8 rfl ?_
  replace hK := mm_bd hK; obtain ⟨v9, e9, hK⟩ := hK
  refine mm_getr C (pc := 9) (k := 0) inGX0 rfl (by decide) wd_816 dX0_become_9 e9 ?_
  refine mm_iconst C (pc := 12) (v := (0 : Int32)) dX0_become_12 (by decide) ?_
  refine mm_aload_n C (pc := 13) 0 dX0_become_13 rfl ?_
  replace hK := mm_bd hK; obtain ⟨v14, e14, hK⟩ := hK
  refine mm_getr C (pc := 14) (k := 0) inGX0 rfl (by decide) wd_816 dX0_become_14 e14 ?_
  refine mm_iconst C (pc := 17) (v := (0 : Int32)) dX0_become_17 (by decide) ?_
  refine mm_bipush C (pc := 18) (v := (81 : Int32)) dX0_become_18 (by decide) ?_
  replace hK := mm_bd hK; obtain ⟨h20, e20, hK⟩ := hK
  refine mm_copy C (pc := 20) wd_930 wd_554 wd_553 wd_166 (by omega) (by simp [mm_crf, mm_cti, mm_ctl]) dX0_become_20 e20 ?_
  cases hK
  exact mm_vret C (pc := 23) rfl dX0_become_23 rfl rfl
theorem wd_1574 : Cond.methodLink RX10 22 yJ9_max_7cf53 ∈ lw_good := mm_wd 1574 (by decide +kernel) (by decide +kernel)
def F_X10_many (a0 : Option Nat) (h : MH) : Option (Int32 × MH) := (gI h a0 10 2).bind fun v1 => some ((mxI v1 (0 : Int32)), h)
set_option maxRecDepth 20000 in
set_option maxHeartbeats 4000000 in
theorem S_X10_many {d : Nat} (hd : 1 ≤ d) {a0 : Option Nat} {h : MH} {r : Int32} {hz : MH} (hK : F_X10_many a0 h = some (r, hz)) : mm_M yX10_many cX10_many 1 (some .int) d [va_rf a0] h (.inr (some (.int r))) hz := by
  refine mm_ofV (by decide +kernel) (by simp [lg_sl, mm_crf, mm_cti, mm_ctl]) (fun V C => ?_)
  rw [show lv_args 0 [va_rf a0] = [(0, va_rf a0)] by simp [lv_args, mm_crf, mm_cti, mm_ctl]]
  unfold F_X10_many at hK
  refine mm_aload_n C (pc := 0) 0 dX10_many_0 rfl ?_
  replace hK := mm_bd hK; obtain ⟨v1, e1, hK⟩ := hK
  refine mm_geti C (pc := 1) (k := 2) inGX10 rfl (by decide) wd_836 dX10_many_1 e1 ?_
  refine mm_iconst C (pc := 4) (v := (0 : Int32)) dX10_many_4 (by decide) ?_
  refine mm_mmax C (pc := 5) wd_1574 wd_412 wd_152 wd_413 (by omega) (by simp [mm_crf, mm_cti, mm_ctl]) dX10_many_5 ?_
  cases hK
  exact mm_iret C (pc := 8) rfl dX10_many_8 rfl rfl
theorem wd_1573 : Cond.code yX10_many cX10_many 1 (some .int) ∈ lw_good := mm_wd 1573 (by decide +kernel) (by decide +kernel)
theorem tT_X10_many : mm_T yX10_many cX10_many 1 (some .int) 0 := ⟨wd_1573, wd_169, by decide +kernel, by decide +kernel, by decide +kernel, by decide +kernel⟩
theorem wd_1579 : Cond.methodLink RX10 37 yX10_many ∈ lw_good := mm_wd 1579 (by decide +kernel) (by decide +kernel)
theorem wd_1571 : Cond.instanceMethod yX10_many ∈ lw_good := mm_wd 1571 (by decide +kernel) (by decide +kernel)
theorem wd_1572 : Cond.selects RX10 yX10_many yX10_many ∈ lw_good := mm_wd 1572 (by decide +kernel) (by decide +kernel)
def F_X10_at_22 (s0 : Int64) (h : MH) : Option (Int64 × MH) := some (s0, h)
set_option maxRecDepth 20000 in
set_option maxHeartbeats 4000000 in
theorem w_X10_at_22 {d : Nat} {V : Nat → List (Nat × Value) → List Value → MH → Prop} {r : Int64} {hz : MH} (hd : 2 ≤ d) (C : mm_C d yX10_at cX10_at 2 (some .long) (.inr (some (.long r))) hz V) (s0 : Int64) (h : MH) (hK : F_X10_at_22 s0 h = some (r, hz)) : V 22 [] [.long s0] h := by
  unfold F_X10_at_22 at hK
  cases hK
  exact mm_lret C (pc := 22) rfl dX10_at_22 rfl rfl
def F_X10_at_21 (h : MH) : Option (Int64 × MH) := F_X10_at_22 (0 : Int64) h
set_option maxRecDepth 20000 in
set_option maxHeartbeats 4000000 in
theorem w_X10_at_21 {d : Nat} {V : Nat → List (Nat × Value) → List Value → MH → Prop} {r : Int64} {hz : MH} (hd : 2 ≤ d) (C : mm_C d yX10_at cX10_at 2 (some .long) (.inr (some (.long r))) hz V) (h : MH) (hK : F_X10_at_21  h = some (r, hz)) : V 21 [] [] h := by
  unfold F_X10_at_21 at hK
  refine mm_lconst C (pc := 21) (v := (0 : Int64)) dX10_at_21 (by decide) ?_
  exact w_X10_at_22 hd C _ _ hK
def F_X10_at (a0 : Option Nat) (a1 : Int32) (h : MH) : Option (Int64 × MH) := if a1 < 0 then (F_X10_at_21 h) else (mm_b2 (cV h a0 10 (F_X10_many a0 h)) fun v6 h6 => if v6 ≤ a1 then (F_X10_at_21 h6) else ((gR h6 a0 10 0).bind fun v13 => (aL h6 v13 a1).bind fun v17 => F_X10_at_22 v17 h6))
set_option maxRecDepth 20000 in
set_option maxHeartbeats 4000000 in
theorem S_X10_at {d : Nat} (hd : 2 ≤ d) {a0 : Option Nat} {a1 : Int32} {h : MH} {r : Int64} {hz : MH} (hK : F_X10_at a0 a1 h = some (r, hz)) : mm_M yX10_at cX10_at 2 (some .long) d [va_rf a0, .int a1] h (.inr (some (.long r))) hz := by
  refine mm_ofV (by decide +kernel) (by simp [lg_sl, mm_crf, mm_cti, mm_ctl]) (fun V C => ?_)
  rw [show lv_args 0 [va_rf a0, .int a1] = [(0, va_rf a0), (1, .int a1)] by simp [lv_args, mm_crf, mm_cti, mm_ctl]]
  unfold F_X10_at at hK
  refine mm_iload_n C (pc := 0) 1 dX10_at_0 rfl ?_
  refine mm_if_lt C (pc := 1) (tgt := 21) dX10_at_1 (by decide) (fun hc => ?_) (fun hc => ?_)
  · replace hK := mm_ip hc hK
    refine mm_sub C [] rfl ?_
    exact w_X10_at_21 hd C _ hK
  · replace hK := mm_in hc hK
    refine mm_iload_n C (pc := 4) 1 dX10_at_4 rfl ?_
    refine mm_aload_n C (pc := 5) 0 dX10_at_5 rfl ?_
    replace hK := mm_b2s hK; obtain ⟨v6, h6, e6, hK⟩ := hK
    obtain ⟨o6, e6⟩ := cV_some e6
    refine mm_callV C (pc := 6) (d1 := 1) (As := []) (st := [.int a1]) (vk := (some (.int v6))) ((S_X10_many (by omega)) e6) tT_X10_many o6 (Or.inr ⟨_, rfl, rfl⟩) wd_1579 wd_1571 wd_1572 (by omega) (by decide) rfl (by simp [mm_crf, mm_cti, mm_ctl]) rfl dX10_at_6 ?_
    show V _ _ (.int v6 :: _) _
    refine mm_icmp_ge C (pc := 9) (tgt := 21) dX10_at_9 (by decide) (fun hc => ?_) (fun hc => ?_)
    · replace hK := mm_ip hc hK
      refine mm_sub C [] rfl ?_
      exact w_X10_at_21 hd C _ hK
    · replace hK := mm_in hc hK
      refine mm_aload_n C (pc := 12) 0 dX10_at_12 rfl ?_
      replace hK := mm_bd hK; obtain ⟨v13, e13, hK⟩ := hK
      refine mm_getr C (pc := 13) (k := 0) inGX10 rfl (by decide) wd_834 dX10_at_13 e13 ?_
      refine mm_iload_n C (pc := 16) 1 dX10_at_16 rfl ?_
      replace hK := mm_bd hK; obtain ⟨v17, e17, hK⟩ := hK
      refine mm_lald C (pc := 17) dX10_at_17 e17 ?_
      refine mm_goto C (pc := 18) (tgt := 22) dX10_at_18 (by decide) ?_
      refine mm_sub C [] rfl ?_
      exact w_X10_at_22 hd C _ _ hK
theorem wd_1584 : Cond.constantLong RX0 110 ((-1) : Int64) ∈ lw_good := mm_wd 1584 (by decide +kernel) (by decide +kernel)
theorem wd_1585 : Cond.constantLong RX0 112 (300 : Int64) ∈ lw_good := mm_wd 1585 (by decide +kernel) (by decide +kernel)
theorem wd_1587 : Cond.methodLink RX0 118 yX0_whyNotUnplug ∈ lw_good := mm_wd 1587 (by decide +kernel) (by decide +kernel)
theorem wd_1586 : Cond.methodLink RX0 114 yX0_whyNotRing ∈ lw_good := mm_wd 1586 (by decide +kernel) (by decide +kernel)
def F_X0_whyNotTold_24 (h : MH) : Option (Int32 × MH) := some ((1 : Int32), h)
set_option maxRecDepth 20000 in
set_option maxHeartbeats 4000000 in
theorem w_X0_whyNotTold_24 {d : Nat} {V : Nat → List (Nat × Value) → List Value → MH → Prop} {r : Int32} {hz : MH} (hd : 4 ≤ d) (C : mm_C d yX0_whyNotTold cX0_whyNotTold 4 (some .int) (.inr (some (.int r))) hz V) (h : MH) (hK : F_X0_whyNotTold_24  h = some (r, hz)) : V 24 [] [] h := by
  unfold F_X0_whyNotTold_24 at hK
  refine mm_iconst C (pc := 24) (v := (1 : Int32)) dX0_whyNotTold_24 (by decide) ?_
  cases hK
  exact mm_iret C (pc := 25) rfl dX0_whyNotTold_25 rfl rfl
def F_X0_whyNotTold_72 (s0 : Int32) (h : MH) : Option (Int32 × MH) := some (s0, h)
set_option maxRecDepth 20000 in
set_option maxHeartbeats 4000000 in
theorem w_X0_whyNotTold_72 {d : Nat} {V : Nat → List (Nat × Value) → List Value → MH → Prop} {r : Int32} {hz : MH} (hd : 4 ≤ d) (C : mm_C d yX0_whyNotTold cX0_whyNotTold 4 (some .int) (.inr (some (.int r))) hz V) (s0 : Int32) (h : MH) (hK : F_X0_whyNotTold_72 s0 h = some (r, hz)) : V 72 [] [.int s0] h := by
  unfold F_X0_whyNotTold_72 at hK
  cases hK
  exact mm_iret C (pc := 72) rfl dX0_whyNotTold_72 rfl rfl
def F_X0_whyNotTold (a0 : Option Nat) (a1 : Int64) (h : MH) : Option (Int32 × MH) := if (lg_cmp a1 ((-1) : Int64)) = 0 then (some ((0 : Int32), h)) else (if (lg_cmp a1 (0 : Int64)) < 0 then (F_X0_whyNotTold_24 h) else (if (lg_cmp a1 (300 : Int64)) < 0 then (if (100 : Int32) ≤ (a1.toInt32) then (if (200 : Int32) ≤ (a1.toInt32) then (mm_b2 (cV h a0 0 (F_X0_whyNotUnplug a0 ((a1.toInt32) - (200 : Int32)) h)) fun v79 h79 => some (v79, h79)) else (mm_b2 (cV h a0 0 (F_X0_isLine a0 ((a1.toInt32) - (100 : Int32)) h)) fun v61 h61 => if v61 = 0 then (F_X0_whyNotTold_72 (1 : Int32) h61) else (F_X0_whyNotTold_72 (0 : Int32) h61))) else (mm_b2 (cV h a0 0 (F_X0_whyNotRing a0 ((a1.toInt32) / (10 : Int32)) ((a1.toInt32) - (a1.toInt32) / (10 : Int32) * (10 : Int32)) (5 : Int32) h)) fun v45 h45 => some (v45, h45))) else (F_X0_whyNotTold_24 h)))
set_option maxRecDepth 20000 in
set_option maxHeartbeats 4000000 in
theorem S_X0_whyNotTold {d : Nat} (hd : 4 ≤ d) {a0 : Option Nat} {a1 : Int64} {h : MH} {r : Int32} {hz : MH} (hK : F_X0_whyNotTold a0 a1 h = some (r, hz)) : mm_M yX0_whyNotTold cX0_whyNotTold 4 (some .int) d [va_rf a0, .long a1] h (.inr (some (.int r))) hz := by
  refine mm_ofV (by decide +kernel) (by simp [lg_sl, mm_crf, mm_cti, mm_ctl]) (fun V C => ?_)
  rw [show lv_args 0 [va_rf a0, .long a1] = [(0, va_rf a0), (1, .long a1)] by simp [lv_args, mm_crf, mm_cti, mm_ctl]]
  unfold F_X0_whyNotTold at hK
  refine mm_lload_n C (pc := 0) 1 dX0_whyNotTold_0 rfl ?_
  refine mm_ldc2 C (pc := 1) (v := ((-1) : Int64)) dX0_whyNotTold_1 wd_1584 ?_
  refine mm_lcmp C (pc := 4) dX0_whyNotTold_4 ?_
  refine mm_if_ne C (pc := 5) (tgt := 10) dX0_whyNotTold_5 (by decide) (fun hc => ?_) (fun hc => ?_)
  · replace hK := mm_in hc hK
    refine mm_lload_n C (pc := 10) 1 dX0_whyNotTold_10 rfl ?_
    refine mm_lconst C (pc := 11) (v := (0 : Int64)) dX0_whyNotTold_11 (by decide) ?_
    refine mm_lcmp C (pc := 12) dX0_whyNotTold_12 ?_
    refine mm_if_lt C (pc := 13) (tgt := 24) dX0_whyNotTold_13 (by decide) (fun hc => ?_) (fun hc => ?_)
    · replace hK := mm_ip hc hK
      refine mm_sub C [] rfl ?_
      exact w_X0_whyNotTold_24 hd C _ hK
    · replace hK := mm_in hc hK
      refine mm_lload_n C (pc := 16) 1 dX0_whyNotTold_16 rfl ?_
      refine mm_ldc2 C (pc := 17) (v := (300 : Int64)) dX0_whyNotTold_17 wd_1585 ?_
      refine mm_lcmp C (pc := 20) dX0_whyNotTold_20 ?_
      refine mm_if_lt C (pc := 21) (tgt := 26) dX0_whyNotTold_21 (by decide) (fun hc => ?_) (fun hc => ?_)
      · replace hK := mm_ip hc hK
        refine mm_lload_n C (pc := 26) 1 dX0_whyNotTold_26 rfl ?_
        refine mm_l2i C (pc := 27) dX0_whyNotTold_27 ?_
        refine mm_istore_n C (pc := 28) (i := 3) (lv' := [(3, .int (a1.toInt32)), (0, va_rf a0), (1, .long a1)]) dX0_whyNotTold_28 rfl (by decide) rfl ?_
        refine mm_iload_n C (pc := 29) 0 dX0_whyNotTold_29 rfl ?_
        refine mm_bipush C (pc := 30) (v := (100 : Int32)) dX0_whyNotTold_30 (by decide) ?_
        refine mm_icmp_ge C (pc := 32) (tgt := 49) dX0_whyNotTold_32 (by decide) (fun hc => ?_) (fun hc => ?_)
        · replace hK := mm_ip hc hK
          refine mm_iload_n C (pc := 49) 0 dX0_whyNotTold_49 rfl ?_
          refine mm_sipush C (pc := 50) (v := (200 : Int32)) dX0_whyNotTold_50 (by decide) ?_
          refine mm_icmp_ge C (pc := 53) (tgt := 73) dX0_whyNotTold_53 (by decide) (fun hc => ?_) (fun hc => ?_)
          · replace hK := mm_ip hc hK
            refine mm_aload_n C (pc := 73) 1 dX0_whyNotTold_73 rfl ?_
            refine mm_iload_n C (pc := 74) 0 dX0_whyNotTold_74 rfl ?_
            refine mm_sipush C (pc := 75) (v := (200 : Int32)) dX0_whyNotTold_75 (by decide) ?_
            refine mm_isub C (pc := 78) dX0_whyNotTold_78 ?_
            replace hK := mm_b2s hK; obtain ⟨v79, h79, e79, hK⟩ := hK
            obtain ⟨o79, e79⟩ := cV_some e79
            refine mm_callV C (pc := 79) (d1 := 3) (As := [.int ((a1.toInt32) - (200 : Int32))]) (st := []) (vk := (some (.int v79))) ((S_X0_whyNotUnplug (by omega)) e79) tT_X0_whyNotUnplug o79 (Or.inr ⟨_, rfl, rfl⟩) wd_1587 wd_953 wd_954 (by omega) (by decide) rfl (by simp [mm_crf, mm_cti, mm_ctl]) rfl dX0_whyNotTold_79 ?_
            show V _ _ (.int v79 :: _) _
            cases hK
            exact mm_iret C (pc := 82) rfl dX0_whyNotTold_82 rfl rfl
          · replace hK := mm_in hc hK
            refine mm_aload_n C (pc := 56) 1 dX0_whyNotTold_56 rfl ?_
            refine mm_iload_n C (pc := 57) 0 dX0_whyNotTold_57 rfl ?_
            refine mm_bipush C (pc := 58) (v := (100 : Int32)) dX0_whyNotTold_58 (by decide) ?_
            refine mm_isub C (pc := 60) dX0_whyNotTold_60 ?_
            replace hK := mm_b2s hK; obtain ⟨v61, h61, e61, hK⟩ := hK
            obtain ⟨o61, e61⟩ := cV_some e61
            refine mm_callV C (pc := 61) (d1 := 1) (As := [.int ((a1.toInt32) - (100 : Int32))]) (st := []) (vk := (some (.int v61))) ((S_X0_isLine (by omega)) e61) tT_X0_isLine o61 (Or.inr ⟨_, rfl, rfl⟩) wd_914 wd_916 wd_4 (by omega) (by decide) rfl (by simp [mm_crf, mm_cti, mm_ctl]) rfl dX0_whyNotTold_61 ?_
            show V _ _ (.int v61 :: _) _
            refine mm_if_eq C (pc := 64) (tgt := 71) dX0_whyNotTold_64 (by decide) (fun hc => ?_) (fun hc => ?_)
            · replace hK := mm_ip hc hK
              refine mm_iconst C (pc := 71) (v := (1 : Int32)) dX0_whyNotTold_71 (by decide) ?_
              refine mm_sub C [] rfl ?_
              exact w_X0_whyNotTold_72 hd C _ _ hK
            · replace hK := mm_in hc hK
              refine mm_iconst C (pc := 67) (v := (0 : Int32)) dX0_whyNotTold_67 (by decide) ?_
              refine mm_goto C (pc := 68) (tgt := 72) dX0_whyNotTold_68 (by decide) ?_
              refine mm_sub C [] rfl ?_
              exact w_X0_whyNotTold_72 hd C _ _ hK
        · replace hK := mm_in hc hK
          refine mm_aload_n C (pc := 35) 1 dX0_whyNotTold_35 rfl ?_
          refine mm_iload_n C (pc := 36) 0 dX0_whyNotTold_36 rfl ?_
          refine mm_bipush C (pc := 37) (v := (10 : Int32)) dX0_whyNotTold_37 (by decide) ?_
          refine mm_idiv C (pc := 39) dX0_whyNotTold_39 (by decide) ?_
          refine mm_iload_n C (pc := 40) 0 dX0_whyNotTold_40 rfl ?_
          refine mm_bipush C (pc := 41) (v := (10 : Int32)) dX0_whyNotTold_41 (by decide) ?_
          refine mm_irem C (pc := 43) dX0_whyNotTold_43 (by decide) ?_
          refine mm_iconst C (pc := 44) (v := (5 : Int32)) dX0_whyNotTold_44 (by decide) ?_
          replace hK := mm_b2s hK; obtain ⟨v45, h45, e45, hK⟩ := hK
          obtain ⟨o45, e45⟩ := cV_some e45
          refine mm_callV C (pc := 45) (d1 := 2) (As := [.int ((a1.toInt32) / (10 : Int32)), .int ((a1.toInt32) - (a1.toInt32) / (10 : Int32) * (10 : Int32)), .int (5 : Int32)]) (st := []) (vk := (some (.int v45))) ((S_X0_whyNotRing (by omega)) e45) tT_X0_whyNotRing o45 (Or.inr ⟨_, rfl, rfl⟩) wd_1586 wd_911 wd_912 (by omega) (by decide) rfl (by simp [mm_crf, mm_cti, mm_ctl]) rfl dX0_whyNotTold_45 ?_
          show V _ _ (.int v45 :: _) _
          cases hK
          exact mm_iret C (pc := 48) rfl dX0_whyNotTold_48 rfl rfl
      · replace hK := mm_in hc hK
        refine mm_sub C [] rfl ?_
        exact w_X0_whyNotTold_24 hd C _ hK
  · replace hK := mm_ip hc hK
    refine mm_iconst C (pc := 8) (v := (0 : Int32)) dX0_whyNotTold_8 (by decide) ?_
    cases hK
    exact mm_iret C (pc := 9) rfl dX0_whyNotTold_9 rfl rfl
