def F_X2_ways (a0 : Option Nat) (h : MH) : Option (Int32 × MH) := (gI h a0 2 5).bind fun v1 => some (v1, h)
set_option maxRecDepth 20000 in
set_option maxHeartbeats 4000000 in
theorem S_X2_ways {d : Nat} (hd : 1 ≤ d) {a0 : Option Nat} {h : MH} {r : Int32} {hz : MH} (hK : F_X2_ways a0 h = some (r, hz)) : mm_M yX2_ways cX2_ways 1 (some .int) d [va_rf a0] h (.inr (some (.int r))) hz := by
  refine mm_ofV (by decide +kernel) (by simp [lg_sl, mm_crf, mm_cti, mm_ctl]) (fun V C => ?_)
  rw [show lv_args 0 [va_rf a0] = [(0, va_rf a0)] by simp [lv_args, mm_crf, mm_cti, mm_ctl]]
  unfold F_X2_ways at hK
  refine mm_aload_n C (pc := 0) 0 dX2_ways_0 rfl ?_
  replace hK := mm_bd hK; obtain ⟨v1, e1, hK⟩ := hK
  refine mm_geti C (pc := 1) (k := 5) inGX2 rfl (by decide) wd_275 dX2_ways_1 e1 ?_
  cases hK
  exact mm_iret C (pc := 4) rfl dX2_ways_4 rfl rfl
theorem wd_1827 : Cond.code yX2_ways cX2_ways 1 (some .int) ∈ lw_good := mm_wd 1827 (by decide +kernel) (by decide +kernel)
theorem tT_X2_ways : mm_T yX2_ways cX2_ways 1 (some .int) 0 := ⟨wd_1827, wd_146, by decide +kernel, by decide +kernel, by decide +kernel, by decide +kernel⟩
theorem wd_1824 : Cond.methodLink RX11 336 yX2_ways ∈ lw_good := mm_wd 1824 (by decide +kernel) (by decide +kernel)
theorem wd_1825 : Cond.instanceMethod yX2_ways ∈ lw_good := mm_wd 1825 (by decide +kernel) (by decide +kernel)
theorem wd_1826 : Cond.selects RX2 yX2_ways yX2_ways ∈ lw_good := mm_wd 1826 (by decide +kernel) (by decide +kernel)
def F_X11_crossings (a0 : Option Nat) (a1 : Int32) (h : MH) : Option ((String ⊕ Int32) × MH) := mm_b3 (cV h a0 11 (F_X11_toldTray a0 a1 h)) fun v2 h2 => mm_b3 (cV h2 a0 11 (F_X11_needTwos a0 v2 h2)) fun _ h8 => (gR h8 a0 11 12).bind fun v12 => (gR h8 a0 11 5).bind fun v16 => (cV h8 v12 2 (F_X2_seek v12 v16 v2 h8)).bind fun h20 => (gR h20 a0 11 12).bind fun v24 => mm_b2 (cV h20 v24 2 (F_X2_ways v24 h20)) fun v27 h27 => some (.inr v27, h27)
set_option maxRecDepth 20000 in
set_option maxHeartbeats 4000000 in
theorem S_X11_crossings {d : Nat} (hd : 8 ≤ d) {a0 : Option Nat} {a1 : Int32} {h : MH} {r : String ⊕ Int32} {hz : MH} (hK : F_X11_crossings a0 a1 h = some (r, hz)) : mm_M yX11_crossings cX11_crossings 3 (some .int) d [va_rf a0, .int a1] h (mm_oi r) hz := by
  refine mm_ofV (by decide +kernel) (by simp [lg_sl, mm_crf, mm_cti, mm_ctl]) (fun V C => ?_)
  rw [show lv_args 0 [va_rf a0, .int a1] = [(0, va_rf a0), (1, .int a1)] by simp [lv_args, mm_crf, mm_cti, mm_ctl]]
  unfold F_X11_crossings at hK
  refine mm_aload_n C (pc := 0) 0 dX11_crossings_0 rfl ?_
  refine mm_iload_n C (pc := 1) 1 dX11_crossings_1 rfl ?_
  replace hK := mm_b3s hK; rcases hK with ⟨E2, e2, rfl⟩ | ⟨v2, h2, e2, hK⟩
  · obtain ⟨o2, e2⟩ := cV_some e2
    exact mm_callVX C (pc := 2) (d1 := 7) (As := [.int a1]) (st := []) ((S_X11_toldTray (by omega)) e2) tT_X11_toldTray o2 (Or.inr ⟨_, rfl, rfl⟩) wd_1541 wd_1543 wd_40 (by omega) (by decide) rfl (by simp [mm_crf, mm_cti, mm_ctl]) rfl dX11_crossings_2 rfl rfl
  obtain ⟨o2, e2⟩ := cV_some e2
  refine mm_callV C (pc := 2) (d1 := 7) (As := [.int a1]) (st := []) (vk := (some (va_rf v2))) ((S_X11_toldTray (by omega)) e2) tT_X11_toldTray o2 (Or.inr ⟨_, rfl, rfl⟩) wd_1541 wd_1543 wd_40 (by omega) (by decide) rfl (by simp [mm_crf, mm_cti, mm_ctl]) rfl dX11_crossings_2 ?_
  show V _ _ (va_rf v2 :: _) _
  refine mm_astore_n C (pc := 5) (i := 2) (lv' := [(2, va_rf v2), (0, va_rf a0), (1, .int a1)]) dX11_crossings_5 rfl (by decide) rfl ?_
  refine mm_aload_n C (pc := 6) 1 dX11_crossings_6 rfl ?_
  refine mm_aload_n C (pc := 7) 0 dX11_crossings_7 rfl ?_
  replace hK := mm_b3s hK; rcases hK with ⟨E8, e8, rfl⟩ | ⟨v8, h8, e8, hK⟩
  · obtain ⟨o8, e8⟩ := cV_some e8
    exact mm_callVX C (pc := 8) (d1 := 7) (As := [va_rf v2]) (st := []) ((S_X11_needTwos (by omega)) e8) tT_X11_needTwos o8 (Or.inr ⟨_, rfl, rfl⟩) wd_1755 wd_1757 wd_50 (by omega) (by decide) rfl (by simp [mm_crf, mm_cti, mm_ctl]) rfl dX11_crossings_8 rfl rfl
  obtain ⟨o8, e8⟩ := cV_some e8
  refine mm_callV C (pc := 8) (d1 := 7) (As := [va_rf v2]) (st := []) (vk := none) ((S_X11_needTwos (by omega)) e8) tT_X11_needTwos o8 (Or.inr ⟨_, rfl, rfl⟩) wd_1755 wd_1757 wd_50 (by omega) (by decide) rfl (by simp [mm_crf, mm_cti, mm_ctl]) rfl dX11_crossings_8 ?_
  show V _ _ [] _
  refine mm_aload_n C (pc := 11) 1 dX11_crossings_11 rfl ?_
  replace hK := mm_bd hK; obtain ⟨v12, e12, hK⟩ := hK
  refine mm_getr C (pc := 12) (k := 12) inGX11 rfl (by decide) wd_857 dX11_crossings_12 e12 ?_
  refine mm_aload_n C (pc := 15) 1 dX11_crossings_15 rfl ?_
  replace hK := mm_bd hK; obtain ⟨v16, e16, hK⟩ := hK
  refine mm_getr C (pc := 16) (k := 5) inGX11 rfl (by decide) wd_850 dX11_crossings_16 e16 ?_
  refine mm_aload_n C (pc := 19) 0 dX11_crossings_19 rfl ?_
  replace hK := mm_bd hK; obtain ⟨h20, e20, hK⟩ := hK
  obtain ⟨o20, e20⟩ := cV_some e20
  refine mm_callV C (pc := 20) (d1 := 5) (As := [va_rf v16, va_rf v2]) (st := []) (vk := none) ((S_X2_seek (by omega)) e20) tT_X2_seek o20 (Or.inr ⟨_, rfl, rfl⟩) wd_1777 wd_1778 wd_1779 (by omega) (by decide) rfl (by simp [mm_crf, mm_cti, mm_ctl]) rfl dX11_crossings_20 ?_
  show V _ _ [] _
  refine mm_aload_n C (pc := 23) 1 dX11_crossings_23 rfl ?_
  replace hK := mm_bd hK; obtain ⟨v24, e24, hK⟩ := hK
  refine mm_getr C (pc := 24) (k := 12) inGX11 rfl (by decide) wd_857 dX11_crossings_24 e24 ?_
  replace hK := mm_b2s hK; obtain ⟨v27, h27, e27, hK⟩ := hK
  obtain ⟨o27, e27⟩ := cV_some e27
  refine mm_callV C (pc := 27) (d1 := 1) (As := []) (st := []) (vk := (some (.int v27))) ((S_X2_ways (by omega)) e27) tT_X2_ways o27 (Or.inr ⟨_, rfl, rfl⟩) wd_1824 wd_1825 wd_1826 (by omega) (by decide) rfl (by simp [mm_crf, mm_cti, mm_ctl]) rfl dX11_crossings_27 ?_
  show V _ _ (.int v27 :: _) _
  cases hK
  exact mm_iret C (pc := 30) rfl dX11_crossings_30 rfl rfl
theorem wd_1113 : Cond.methodLink RX6 72 yX8_liking ∈ lw_good := mm_wd 1113 (by decide +kernel) (by decide +kernel)
def F_X6_contentment_28 (s0 : Int32) (h : MH) : Option (Int32 × MH) := some (s0, h)
set_option maxRecDepth 20000 in
set_option maxHeartbeats 4000000 in
theorem w_X6_contentment_28 {d : Nat} {V : Nat → List (Nat × Value) → List Value → MH → Prop} {r : Int32} {hz : MH} (hd : 2 ≤ d) (C : mm_C d yX6_contentment cX6_contentment 3 (some .int) (.inr (some (.int r))) hz V) (s0 : Int32) (h : MH) (hK : F_X6_contentment_28 s0 h = some (r, hz)) : V 28 [] [.int s0] h := by
  unfold F_X6_contentment_28 at hK
  cases hK
  exact mm_iret C (pc := 28) rfl dX6_contentment_28 rfl rfl
def F_X6_contentment_27 (h : MH) : Option (Int32 × MH) := F_X6_contentment_28 (0 : Int32) h
set_option maxRecDepth 20000 in
set_option maxHeartbeats 4000000 in
theorem w_X6_contentment_27 {d : Nat} {V : Nat → List (Nat × Value) → List Value → MH → Prop} {r : Int32} {hz : MH} (hd : 2 ≤ d) (C : mm_C d yX6_contentment cX6_contentment 3 (some .int) (.inr (some (.int r))) hz V) (h : MH) (hK : F_X6_contentment_27  h = some (r, hz)) : V 27 [] [] h := by
  unfold F_X6_contentment_27 at hK
  refine mm_iconst C (pc := 27) (v := (0 : Int32)) dX6_contentment_27 (by decide) ?_
  exact w_X6_contentment_28 hd C _ _ hK
def F_X6_contentment (a0 : Option Nat) (a1 : Option Nat) (a2 : Int32) (h : MH) : Option (Int32 × MH) := if a2 < 0 then (F_X6_contentment_27 h) else ((aNt h a1 0).bind fun v6 => if v6 ≤ a2 then (F_X6_contentment_27 h) else ((aI h a1 0 a2).bind fun v12 => if v12 < 0 then (F_X6_contentment_27 h) else ((aI h a1 0 a2).bind fun v20 => mm_b2 (cV h a0 8 (F_X8_liking a0 a2 v20 h)) fun v21 h21 => F_X6_contentment_28 v21 h21)))
set_option maxRecDepth 20000 in
set_option maxHeartbeats 4000000 in
theorem S_X6_contentment {d : Nat} (hd : 2 ≤ d) {a0 : Option Nat} {a1 : Option Nat} {a2 : Int32} {h : MH} {r : Int32} {hz : MH} (hK : F_X6_contentment a0 a1 a2 h = some (r, hz)) : mm_M yX6_contentment cX6_contentment 3 (some .int) d [va_rf a0, va_rf a1, .int a2] h (.inr (some (.int r))) hz := by
  refine mm_ofV (by decide +kernel) (by simp [lg_sl, mm_crf, mm_cti, mm_ctl]) (fun V C => ?_)
  rw [show lv_args 0 [va_rf a0, va_rf a1, .int a2] = [(0, va_rf a0), (1, va_rf a1), (2, .int a2)] by simp [lv_args, mm_crf, mm_cti, mm_ctl]]
  unfold F_X6_contentment at hK
  refine mm_iload_n C (pc := 0) 2 dX6_contentment_0 rfl ?_
  refine mm_if_lt C (pc := 1) (tgt := 27) dX6_contentment_1 (by decide) (fun hc => ?_) (fun hc => ?_)
  · replace hK := mm_ip hc hK
    refine mm_sub C [] rfl ?_
    exact w_X6_contentment_27 hd C _ hK
  · replace hK := mm_in hc hK
    refine mm_iload_n C (pc := 4) 2 dX6_contentment_4 rfl ?_
    refine mm_aload_n C (pc := 5) 1 dX6_contentment_5 rfl ?_
    replace hK := mm_bd hK; obtain ⟨v6, e6, hK⟩ := hK
    refine mm_alenI C (pc := 6) dX6_contentment_6 e6 ?_
    refine mm_icmp_ge C (pc := 7) (tgt := 27) dX6_contentment_7 (by decide) (fun hc => ?_) (fun hc => ?_)
    · replace hK := mm_ip hc hK
      refine mm_sub C [] rfl ?_
      exact w_X6_contentment_27 hd C _ hK
    · replace hK := mm_in hc hK
      refine mm_aload_n C (pc := 10) 1 dX6_contentment_10 rfl ?_
      refine mm_iload_n C (pc := 11) 2 dX6_contentment_11 rfl ?_
      replace hK := mm_bd hK; obtain ⟨v12, e12, hK⟩ := hK
      refine mm_iald C (pc := 12) dX6_contentment_12 e12 ?_
      refine mm_if_lt C (pc := 13) (tgt := 27) dX6_contentment_13 (by decide) (fun hc => ?_) (fun hc => ?_)
      · replace hK := mm_ip hc hK
        refine mm_sub C [] rfl ?_
        exact w_X6_contentment_27 hd C _ hK
      · replace hK := mm_in hc hK
        refine mm_aload_n C (pc := 16) 0 dX6_contentment_16 rfl ?_
        refine mm_iload_n C (pc := 17) 2 dX6_contentment_17 rfl ?_
        refine mm_aload_n C (pc := 18) 1 dX6_contentment_18 rfl ?_
        refine mm_iload_n C (pc := 19) 2 dX6_contentment_19 rfl ?_
        replace hK := mm_bd hK; obtain ⟨v20, e20, hK⟩ := hK
        refine mm_iald C (pc := 20) dX6_contentment_20 e20 ?_
        replace hK := mm_b2s hK; obtain ⟨v21, h21, e21, hK⟩ := hK
        obtain ⟨o21, e21⟩ := cV_some e21
        refine mm_callV C (pc := 21) (d1 := 1) (As := [.int a2, .int v20]) (st := []) (vk := (some (.int v21))) ((S_X8_liking (by omega)) e21) tT_X8_liking o21 (Or.inr ⟨_, rfl, rfl⟩) wd_1113 wd_1064 wd_1065 (by omega) (by decide) rfl (by simp [mm_crf, mm_cti, mm_ctl]) rfl dX6_contentment_21 ?_
        show V _ _ (.int v21 :: _) _
        refine mm_goto C (pc := 24) (tgt := 28) dX6_contentment_24 (by decide) ?_
        refine mm_sub C [] rfl ?_
        exact w_X6_contentment_28 hd C _ _ hK
theorem wd_774 : Cond.fieldLink RX6 49 "CrossedLines$Plan" "lines" "I" ∈ lw_good := mm_wd 774 (by decide +kernel) (by decide +kernel)
theorem wd_1116 : Cond.code yX6_contentment cX6_contentment 3 (some .int) ∈ lw_good := mm_wd 1116 (by decide +kernel) (by decide +kernel)
theorem tT_X6_contentment : mm_T yX6_contentment cX6_contentment 3 (some .int) 3 := ⟨wd_1116, wd_147, by decide +kernel, by decide +kernel, by decide +kernel, by decide +kernel⟩
theorem wd_1114 : Cond.methodLink RX6 68 yX6_contentment ∈ lw_good := mm_wd 1114 (by decide +kernel) (by decide +kernel)
theorem wd_1115 : Cond.static yX6_contentment ∈ lw_good := mm_wd 1115 (by decide +kernel) (by decide +kernel)
def F_X6_firstToPart_90 (h : MH) : Option (Int32 × MH) := some (((-1) : Int32), h)
set_option maxRecDepth 20000 in
set_option maxHeartbeats 4000000 in
theorem w_X6_firstToPart_90 {d : Nat} {V : Nat → List (Nat × Value) → List Value → MH → Prop} {r : Int32} {hz : MH} (hd : 3 ≤ d) (C : mm_C d yX6_firstToPart cX6_firstToPart 4 (some .int) (.inr (some (.int r))) hz V) (h : MH) (hK : F_X6_firstToPart_90  h = some (r, hz)) : V 90 [] [] h := by
  unfold F_X6_firstToPart_90 at hK
  refine mm_iconst C (pc := 90) (v := ((-1) : Int32)) dX6_firstToPart_90 (by decide) ?_
  cases hK
  exact mm_iret C (pc := 91) rfl dX6_firstToPart_91 rfl rfl
def F_X6_firstToPart_84 (k2 : Option Nat → Option Nat → Int32 → MH → Option (Int32 × MH)) (l0 : Option Nat) (l1 : Option Nat) (l2 : Int32) (h : MH) : Option (Int32 × MH) := k2 l0 l1 (l2 + (1 : Int32)) h
set_option maxRecDepth 20000 in
set_option maxHeartbeats 4000000 in
theorem w_X6_firstToPart_84 {d : Nat} {V : Nat → List (Nat × Value) → List Value → MH → Prop} {r : Int32} {hz : MH} {k2 : Option Nat → Option Nat → Int32 → MH → Option (Int32 × MH)} (hd : 3 ≤ d) (C : mm_C d yX6_firstToPart cX6_firstToPart 4 (some .int) (.inr (some (.int r))) hz V) (q2 : ∀ (x0 : Option Nat) (x1 : Option Nat) (x2 : Int32) (h : MH), k2 x0 x1 x2 h = some (r, hz) → V 2 [(0, va_rf x0), (1, va_rf x1), (2, .int x2)] [] h) (l0 : Option Nat) (l1 : Option Nat) (l2 : Int32) (h : MH) (hK : F_X6_firstToPart_84 k2 l0 l1 l2 h = some (r, hz)) : V 84 [(0, va_rf l0), (1, va_rf l1), (2, .int l2)] [] h := by
  unfold F_X6_firstToPart_84 at hK
  refine mm_iinc C (pc := 84) (v := (l2 + (1 : Int32))) (lv' := [(2, .int (l2 + (1 : Int32))), (0, va_rf l0), (1, va_rf l1)]) 2 dX6_firstToPart_84 rfl rfl (by decide) (by simp [mm_crf]) ?_
  refine mm_goto C (pc := 87) (tgt := 2) dX6_firstToPart_87 (by decide) ?_
  refine mm_sub C [1, 2, 0] rfl ?_
  exact q2 _ _ _ _ hK
def F_X6_firstToPart_78 (k2 : Option Nat → Option Nat → Int32 → MH → Option (Int32 × MH)) (k20 : Option Nat → Option Nat → Int32 → Int32 → MH → Option (Int32 × MH)) (l0 : Option Nat) (l1 : Option Nat) (l2 : Int32) (l3 : Int32) (h : MH) : Option (Int32 × MH) := k20 l0 l1 l2 (l3 + (1 : Int32)) h
set_option maxRecDepth 20000 in
set_option maxHeartbeats 4000000 in
theorem w_X6_firstToPart_78 {d : Nat} {V : Nat → List (Nat × Value) → List Value → MH → Prop} {r : Int32} {hz : MH} {k2 : Option Nat → Option Nat → Int32 → MH → Option (Int32 × MH)} {k20 : Option Nat → Option Nat → Int32 → Int32 → MH → Option (Int32 × MH)} (hd : 3 ≤ d) (C : mm_C d yX6_firstToPart cX6_firstToPart 4 (some .int) (.inr (some (.int r))) hz V) (q2 : ∀ (x0 : Option Nat) (x1 : Option Nat) (x2 : Int32) (h : MH), k2 x0 x1 x2 h = some (r, hz) → V 2 [(0, va_rf x0), (1, va_rf x1), (2, .int x2)] [] h) (q20 : ∀ (x0 : Option Nat) (x1 : Option Nat) (x2 : Int32) (x3 : Int32) (h : MH), k20 x0 x1 x2 x3 h = some (r, hz) → V 20 [(0, va_rf x0), (1, va_rf x1), (2, .int x2), (3, .int x3)] [] h) (l0 : Option Nat) (l1 : Option Nat) (l2 : Int32) (l3 : Int32) (h : MH) (hK : F_X6_firstToPart_78 k2 k20 l0 l1 l2 l3 h = some (r, hz)) : V 78 [(0, va_rf l0), (1, va_rf l1), (2, .int l2), (3, .int l3)] [] h := by
  unfold F_X6_firstToPart_78 at hK
  refine mm_iinc C (pc := 78) (v := (l3 + (1 : Int32))) (lv' := [(3, .int (l3 + (1 : Int32))), (0, va_rf l0), (1, va_rf l1), (2, .int l2)]) 3 dX6_firstToPart_78 rfl rfl (by decide) rfl ?_
  refine mm_goto C (pc := 81) (tgt := 20) dX6_firstToPart_81 (by decide) ?_
  refine mm_sub C [1, 2, 3, 0] rfl ?_
  exact q20 _ _ _ _ _ hK
def F_X6_firstToPart_20 (k2 : Option Nat → Option Nat → Int32 → MH → Option (Int32 × MH)) : Nat → Option Nat → Option Nat → Int32 → Int32 → MH → Option (Int32 × MH)
  | 0 => fun _ _ _ _ _ => none
  | n + 1 => fun l0 l1 l2 l3 h => (gI h l0 8 0).bind fun v22 => if v22 ≤ l3 then (F_X6_firstToPart_84 k2 l0 l1 l2 h) else ((aNt h l1 0).bind fun v30 => if v30 ≤ l3 then (F_X6_firstToPart_84 k2 l0 l1 l2 h) else ((aI h l1 0 l2).bind fun v36 => if v36 = l3 then (F_X6_firstToPart_78 k2 (F_X6_firstToPart_20 k2 n) l0 l1 l2 l3 h) else (mm_b2 (cV h l0 8 (F_X8_liking l0 l2 l3 h)) fun v44 h44 => mm_b2 (F_X6_contentment l0 l1 l2 h44) fun v50 h50 => if v44 ≤ v50 then (F_X6_firstToPart_78 k2 (F_X6_firstToPart_20 k2 n) l0 l1 l2 l3 h50) else (mm_b2 (cV h50 l0 8 (F_X8_liking l0 l3 l2 h50)) fun v59 h59 => mm_b2 (F_X6_contentment l0 l1 l3 h59) fun v65 h65 => if v59 ≤ v65 then (F_X6_firstToPart_78 k2 (F_X6_firstToPart_20 k2 n) l0 l1 l2 l3 h65) else (some ((((10 : Int32) * l2) + l3), h65))))))
set_option maxRecDepth 20000 in
set_option maxHeartbeats 4000000 in
theorem w_X6_firstToPart_20 {d : Nat} {V : Nat → List (Nat × Value) → List Value → MH → Prop} {r : Int32} {hz : MH} {k2 : Option Nat → Option Nat → Int32 → MH → Option (Int32 × MH)} (hd : 3 ≤ d) (C : mm_C d yX6_firstToPart cX6_firstToPart 4 (some .int) (.inr (some (.int r))) hz V) (q2 : ∀ (x0 : Option Nat) (x1 : Option Nat) (x2 : Int32) (h : MH), k2 x0 x1 x2 h = some (r, hz) → V 2 [(0, va_rf x0), (1, va_rf x1), (2, .int x2)] [] h) : ∀ (n : Nat) (l0 : Option Nat) (l1 : Option Nat) (l2 : Int32) (l3 : Int32) (h : MH), F_X6_firstToPart_20 k2 n l0 l1 l2 l3 h = some (r, hz) → V 20 [(0, va_rf l0), (1, va_rf l1), (2, .int l2), (3, .int l3)] [] h := by
  intro n
  induction n with
  | zero => intro l0 l1 l2 l3 h hK; cases hK
  | succ n ih =>
    intro l0 l1 l2 l3 h hK
    replace hK : ((gI h l0 8 0).bind fun v22 => if v22 ≤ l3 then (F_X6_firstToPart_84 k2 l0 l1 l2 h) else ((aNt h l1 0).bind fun v30 => if v30 ≤ l3 then (F_X6_firstToPart_84 k2 l0 l1 l2 h) else ((aI h l1 0 l2).bind fun v36 => if v36 = l3 then (F_X6_firstToPart_78 k2 (F_X6_firstToPart_20 k2 n) l0 l1 l2 l3 h) else (mm_b2 (cV h l0 8 (F_X8_liking l0 l2 l3 h)) fun v44 h44 => mm_b2 (F_X6_contentment l0 l1 l2 h44) fun v50 h50 => if v44 ≤ v50 then (F_X6_firstToPart_78 k2 (F_X6_firstToPart_20 k2 n) l0 l1 l2 l3 h50) else (mm_b2 (cV h50 l0 8 (F_X8_liking l0 l3 l2 h50)) fun v59 h59 => mm_b2 (F_X6_contentment l0 l1 l3 h59) fun v65 h65 => if v59 ≤ v65 then (F_X6_firstToPart_78 k2 (F_X6_firstToPart_20 k2 n) l0 l1 l2 l3 h65) else (some ((((10 : Int32) * l2) + l3), h65))))))) = some (r, hz) := hK
    refine mm_iload_n C (pc := 20) 3 dX6_firstToPart_20 rfl ?_
    refine mm_aload_n C (pc := 21) 0 dX6_firstToPart_21 rfl ?_
    replace hK := mm_bd hK; obtain ⟨v22, e22, hK⟩ := hK
    refine mm_geti C (pc := 22) (k := 0) inGX8 rfl (by decide) wd_774 dX6_firstToPart_22 e22 ?_
    refine mm_icmp_ge C (pc := 25) (tgt := 84) dX6_firstToPart_25 (by decide) (fun hc => ?_) (fun hc => ?_)
    · replace hK := mm_ip hc hK
      refine mm_sub C [0, 1, 2] rfl ?_
      exact w_X6_firstToPart_84 hd C (fun z0 z1 z2 z3 hK => q2 z0 z1 z2 z3 hK) _ _ _ _ hK
    · replace hK := mm_in hc hK
      refine mm_iload_n C (pc := 28) 3 dX6_firstToPart_28 rfl ?_
      refine mm_aload_n C (pc := 29) 1 dX6_firstToPart_29 rfl ?_
      replace hK := mm_bd hK; obtain ⟨v30, e30, hK⟩ := hK
      refine mm_alenI C (pc := 30) dX6_firstToPart_30 e30 ?_
      refine mm_icmp_ge C (pc := 31) (tgt := 84) dX6_firstToPart_31 (by decide) (fun hc => ?_) (fun hc => ?_)
      · replace hK := mm_ip hc hK
        refine mm_sub C [0, 1, 2] rfl ?_
        exact w_X6_firstToPart_84 hd C (fun z0 z1 z2 z3 hK => q2 z0 z1 z2 z3 hK) _ _ _ _ hK
      · replace hK := mm_in hc hK
        refine mm_aload_n C (pc := 34) 1 dX6_firstToPart_34 rfl ?_
        refine mm_iload_n C (pc := 35) 2 dX6_firstToPart_35 rfl ?_
        replace hK := mm_bd hK; obtain ⟨v36, e36, hK⟩ := hK
        refine mm_iald C (pc := 36) dX6_firstToPart_36 e36 ?_
        refine mm_iload_n C (pc := 37) 3 dX6_firstToPart_37 rfl ?_
        refine mm_icmp_eq C (pc := 38) (tgt := 78) dX6_firstToPart_38 (by decide) (fun hc => ?_) (fun hc => ?_)
        · replace hK := mm_ip hc hK
          exact w_X6_firstToPart_78 hd C (fun z0 z1 z2 z3 hK => q2 z0 z1 z2 z3 hK) (fun z0 z1 z2 z3 z4 hK => ih z0 z1 z2 z3 z4 hK) _ _ _ _ _ hK
        · replace hK := mm_in hc hK
          refine mm_aload_n C (pc := 41) 0 dX6_firstToPart_41 rfl ?_
          refine mm_iload_n C (pc := 42) 2 dX6_firstToPart_42 rfl ?_
          refine mm_iload_n C (pc := 43) 3 dX6_firstToPart_43 rfl ?_
          replace hK := mm_b2s hK; obtain ⟨v44, h44, e44, hK⟩ := hK
          obtain ⟨o44, e44⟩ := cV_some e44
          refine mm_callV C (pc := 44) (d1 := 1) (As := [.int l2, .int l3]) (st := []) (vk := (some (.int v44))) ((S_X8_liking (by omega)) e44) tT_X8_liking o44 (Or.inr ⟨_, rfl, rfl⟩) wd_1113 wd_1064 wd_1065 (by omega) (by decide) rfl (by simp [mm_crf, mm_cti, mm_ctl]) rfl dX6_firstToPart_44 ?_
          show V _ _ (.int v44 :: _) _
          refine mm_aload_n C (pc := 47) 0 dX6_firstToPart_47 rfl ?_
          refine mm_aload_n C (pc := 48) 1 dX6_firstToPart_48 rfl ?_
          refine mm_iload_n C (pc := 49) 2 dX6_firstToPart_49 rfl ?_
          replace hK := mm_b2s hK; obtain ⟨v50, h50, e50, hK⟩ := hK
          refine mm_callS C (pc := 50) (d1 := 2) (As := [va_rf l0, va_rf l1, .int l2]) (st := [.int v44]) (vk := (some (.int v50))) ((S_X6_contentment (by omega)) e50) tT_X6_contentment wd_1114 wd_1115 (by omega) (by decide) rfl (by simp [mm_crf, mm_cti, mm_ctl]) rfl dX6_firstToPart_50 ?_
          show V _ _ (.int v50 :: _) _
          refine mm_icmp_le C (pc := 53) (tgt := 78) dX6_firstToPart_53 (by decide) (fun hc => ?_) (fun hc => ?_)
          · replace hK := mm_ip hc hK
            exact w_X6_firstToPart_78 hd C (fun z0 z1 z2 z3 hK => q2 z0 z1 z2 z3 hK) (fun z0 z1 z2 z3 z4 hK => ih z0 z1 z2 z3 z4 hK) _ _ _ _ _ hK
          · replace hK := mm_in hc hK
            refine mm_aload_n C (pc := 56) 0 dX6_firstToPart_56 rfl ?_
            refine mm_iload_n C (pc := 57) 3 dX6_firstToPart_57 rfl ?_
            refine mm_iload_n C (pc := 58) 2 dX6_firstToPart_58 rfl ?_
            replace hK := mm_b2s hK; obtain ⟨v59, h59, e59, hK⟩ := hK
            obtain ⟨o59, e59⟩ := cV_some e59
            refine mm_callV C (pc := 59) (d1 := 1) (As := [.int l3, .int l2]) (st := []) (vk := (some (.int v59))) ((S_X8_liking (by omega)) e59) tT_X8_liking o59 (Or.inr ⟨_, rfl, rfl⟩) wd_1113 wd_1064 wd_1065 (by omega) (by decide) rfl (by simp [mm_crf, mm_cti, mm_ctl]) rfl dX6_firstToPart_59 ?_
            show V _ _ (.int v59 :: _) _
            refine mm_aload_n C (pc := 62) 0 dX6_firstToPart_62 rfl ?_
            refine mm_aload_n C (pc := 63) 1 dX6_firstToPart_63 rfl ?_
            refine mm_iload_n C (pc := 64) 3 dX6_firstToPart_64 rfl ?_
            replace hK := mm_b2s hK; obtain ⟨v65, h65, e65, hK⟩ := hK
            refine mm_callS C (pc := 65) (d1 := 2) (As := [va_rf l0, va_rf l1, .int l3]) (st := [.int v59]) (vk := (some (.int v65))) ((S_X6_contentment (by omega)) e65) tT_X6_contentment wd_1114 wd_1115 (by omega) (by decide) rfl (by simp [mm_crf, mm_cti, mm_ctl]) rfl dX6_firstToPart_65 ?_
            show V _ _ (.int v65 :: _) _
            refine mm_icmp_le C (pc := 68) (tgt := 78) dX6_firstToPart_68 (by decide) (fun hc => ?_) (fun hc => ?_)
            · replace hK := mm_ip hc hK
              exact w_X6_firstToPart_78 hd C (fun z0 z1 z2 z3 hK => q2 z0 z1 z2 z3 hK) (fun z0 z1 z2 z3 z4 hK => ih z0 z1 z2 z3 z4 hK) _ _ _ _ _ hK
            · replace hK := mm_in hc hK
              refine mm_bipush C (pc := 71) (v := (10 : Int32)) dX6_firstToPart_71 (by decide) ?_
              refine mm_iload_n C (pc := 73) 2 dX6_firstToPart_73 rfl ?_
              refine mm_imul C (pc := 74) dX6_firstToPart_74 ?_
              refine mm_iload_n C (pc := 75) 3 dX6_firstToPart_75 rfl ?_
              refine mm_iadd C (pc := 76) dX6_firstToPart_76 ?_
              cases hK
              exact mm_iret C (pc := 77) rfl dX6_firstToPart_77 rfl rfl
def F_X6_firstToPart_2 : Nat → Option Nat → Option Nat → Int32 → MH → Option (Int32 × MH)
  | 0 => fun _ _ _ _ => none
  | n + 1 => fun l0 l1 l2 h => (gI h l0 8 0).bind fun v4 => if v4 ≤ l2 then (F_X6_firstToPart_90 h) else ((aNt h l1 0).bind fun v12 => if v12 ≤ l2 then (F_X6_firstToPart_90 h) else (F_X6_firstToPart_20 (F_X6_firstToPart_2 n) mm_N l0 l1 l2 (l2 + (1 : Int32)) h))
set_option maxRecDepth 20000 in
set_option maxHeartbeats 4000000 in
theorem w_X6_firstToPart_2 {d : Nat} {V : Nat → List (Nat × Value) → List Value → MH → Prop} {r : Int32} {hz : MH} (hd : 3 ≤ d) (C : mm_C d yX6_firstToPart cX6_firstToPart 4 (some .int) (.inr (some (.int r))) hz V) : ∀ (n : Nat) (l0 : Option Nat) (l1 : Option Nat) (l2 : Int32) (h : MH), F_X6_firstToPart_2 n l0 l1 l2 h = some (r, hz) → V 2 [(0, va_rf l0), (1, va_rf l1), (2, .int l2)] [] h := by
  intro n
  induction n with
  | zero => intro l0 l1 l2 h hK; cases hK
  | succ n ih =>
    intro l0 l1 l2 h hK
    replace hK : ((gI h l0 8 0).bind fun v4 => if v4 ≤ l2 then (F_X6_firstToPart_90 h) else ((aNt h l1 0).bind fun v12 => if v12 ≤ l2 then (F_X6_firstToPart_90 h) else (F_X6_firstToPart_20 (F_X6_firstToPart_2 n) mm_N l0 l1 l2 (l2 + (1 : Int32)) h))) = some (r, hz) := hK
    refine mm_iload_n C (pc := 2) 2 dX6_firstToPart_2 rfl ?_
    refine mm_aload_n C (pc := 3) 0 dX6_firstToPart_3 rfl ?_
    replace hK := mm_bd hK; obtain ⟨v4, e4, hK⟩ := hK
    refine mm_geti C (pc := 4) (k := 0) inGX8 rfl (by decide) wd_774 dX6_firstToPart_4 e4 ?_
    refine mm_icmp_ge C (pc := 7) (tgt := 90) dX6_firstToPart_7 (by decide) (fun hc => ?_) (fun hc => ?_)
    · replace hK := mm_ip hc hK
      refine mm_sub C [] rfl ?_
      exact w_X6_firstToPart_90 hd C _ hK
    · replace hK := mm_in hc hK
      refine mm_iload_n C (pc := 10) 2 dX6_firstToPart_10 rfl ?_
      refine mm_aload_n C (pc := 11) 1 dX6_firstToPart_11 rfl ?_
      replace hK := mm_bd hK; obtain ⟨v12, e12, hK⟩ := hK
      refine mm_alenI C (pc := 12) dX6_firstToPart_12 e12 ?_
      refine mm_icmp_ge C (pc := 13) (tgt := 90) dX6_firstToPart_13 (by decide) (fun hc => ?_) (fun hc => ?_)
      · replace hK := mm_ip hc hK
        refine mm_sub C [] rfl ?_
        exact w_X6_firstToPart_90 hd C _ hK
      · replace hK := mm_in hc hK
        refine mm_iload_n C (pc := 16) 2 dX6_firstToPart_16 rfl ?_
        refine mm_iconst C (pc := 17) (v := (1 : Int32)) dX6_firstToPart_17 (by decide) ?_
        refine mm_iadd C (pc := 18) dX6_firstToPart_18 ?_
        refine mm_istore_n C (pc := 19) (i := 3) (lv' := [(3, .int (l2 + (1 : Int32))), (0, va_rf l0), (1, va_rf l1), (2, .int l2)]) dX6_firstToPart_19 rfl (by decide) rfl ?_
        refine mm_sub C [1, 2, 3, 0] rfl ?_
        exact w_X6_firstToPart_20 hd C (fun z0 z1 z2 z3 hK => ih z0 z1 z2 z3 hK) _ _ _ _ _ _ hK
def F_X6_firstToPart (a0 : Option Nat) (a1 : Option Nat) (h : MH) : Option (Int32 × MH) := F_X6_firstToPart_2 mm_N a0 a1 (0 : Int32) h
set_option maxRecDepth 20000 in
set_option maxHeartbeats 4000000 in
theorem S_X6_firstToPart {d : Nat} (hd : 3 ≤ d) {a0 : Option Nat} {a1 : Option Nat} {h : MH} {r : Int32} {hz : MH} (hK : F_X6_firstToPart a0 a1 h = some (r, hz)) : mm_M yX6_firstToPart cX6_firstToPart 4 (some .int) d [va_rf a0, va_rf a1] h (.inr (some (.int r))) hz := by
  refine mm_ofV (by decide +kernel) (by simp [lg_sl, mm_crf, mm_cti, mm_ctl]) (fun V C => ?_)
  rw [show lv_args 0 [va_rf a0, va_rf a1] = [(0, va_rf a0), (1, va_rf a1)] by simp [lv_args, mm_crf, mm_cti, mm_ctl]]
  unfold F_X6_firstToPart at hK
  refine mm_iconst C (pc := 0) (v := (0 : Int32)) dX6_firstToPart_0 (by decide) ?_
  refine mm_istore_n C (pc := 1) (i := 2) (lv' := [(2, .int (0 : Int32)), (0, va_rf a0), (1, va_rf a1)]) dX6_firstToPart_1 rfl (by decide) (by simp [mm_crf]) ?_
  refine mm_sub C [1, 2, 0] rfl ?_
  exact w_X6_firstToPart_2 hd C _ _ _ _ _ hK
theorem wd_1112 : Cond.code yX6_firstToPart cX6_firstToPart 4 (some .int) ∈ lw_good := mm_wd 1112 (by decide +kernel) (by decide +kernel)
theorem tT_X6_firstToPart : mm_T yX6_firstToPart cX6_firstToPart 4 (some .int) 2 := ⟨wd_1112, wd_147, by decide +kernel, by decide +kernel, by decide +kernel, by decide +kernel⟩
theorem wd_1110 : Cond.methodLink RX6 58 yX6_firstToPart ∈ lw_good := mm_wd 1110 (by decide +kernel) (by decide +kernel)
theorem wd_1111 : Cond.static yX6_firstToPart ∈ lw_good := mm_wd 1111 (by decide +kernel) (by decide +kernel)
theorem wd_1117 : Cond.methodLink RX6 62 arraycopyName ∈ lw_good := mm_wd 1117 (by decide +kernel) (by decide +kernel)
def F_X6_weigh_124 (h : MH) : Option MH := some h
set_option maxRecDepth 20000 in
set_option maxHeartbeats 4000000 in
theorem w_X6_weigh_124 {d : Nat} {V : Nat → List (Nat × Value) → List Value → MH → Prop} {hz : MH} (hd : 4 ≤ d) (C : mm_C d yX6_weigh cX6_weigh 4 none (.inr none) hz V) (h : MH) (hK : F_X6_weigh_124  h = some hz) : V 124 [] [] h := by
  unfold F_X6_weigh_124 at hK
  cases hK
  exact mm_vret C (pc := 124) rfl dX6_weigh_124 rfl rfl
def F_X6_weigh_97 (l0 : Option Nat) (l1 : Option Nat) (l2 : Int32) (h : MH) : Option MH := (pZ h l0 6 6 (1 : Int32)).bind fun h99 => (pI h99 l0 6 7 l2).bind fun h104 => (gR h104 l0 6 0).bind fun v108 => (gR h104 l0 6 2).bind fun v113 => (gI h104 l1 8 0).bind fun v118 => (cpI h104 v108 (0 : Int32) v113 (0 : Int32) v118).bind fun h121 => F_X6_weigh_124 h121
set_option maxRecDepth 20000 in
set_option maxHeartbeats 4000000 in
theorem w_X6_weigh_97 {d : Nat} {V : Nat → List (Nat × Value) → List Value → MH → Prop} {hz : MH} (hd : 4 ≤ d) (C : mm_C d yX6_weigh cX6_weigh 4 none (.inr none) hz V) (l0 : Option Nat) (l1 : Option Nat) (l2 : Int32) (h : MH) (hK : F_X6_weigh_97 l0 l1 l2 h = some hz) : V 97 [(0, va_rf l0), (1, va_rf l1), (2, .int l2)] [] h := by
  unfold F_X6_weigh_97 at hK
  refine mm_aload_n C (pc := 97) 0 dX6_weigh_97 rfl ?_
  refine mm_iconst C (pc := 98) (v := (1 : Int32)) dX6_weigh_98 (by decide) ?_
  replace hK := mm_bd hK; obtain ⟨h99, e99, hK⟩ := hK
  refine mm_putz C (pc := 99) (k := 6) false (fun z => by cases z) inGX6 tyX6 tyX6_ok nmX6 rfl (by decide) wd_301 rfl rfl dX6_weigh_99 e99 ?_
  refine mm_aload_n C (pc := 102) 0 dX6_weigh_102 rfl ?_
  refine mm_iload_n C (pc := 103) 2 dX6_weigh_103 rfl ?_
  replace hK := mm_bd hK; obtain ⟨h104, e104, hK⟩ := hK
  refine mm_puti C (pc := 104) (k := 7) false (fun z => by cases z) inGX6 tyX6 tyX6_ok nmX6 rfl (by decide) wd_302 rfl rfl dX6_weigh_104 e104 ?_
  refine mm_aload_n C (pc := 107) 0 dX6_weigh_107 rfl ?_
  replace hK := mm_bd hK; obtain ⟨v108, e108, hK⟩ := hK
  refine mm_getr C (pc := 108) (k := 0) inGX6 rfl (by decide) wd_295 dX6_weigh_108 e108 ?_
  refine mm_iconst C (pc := 111) (v := (0 : Int32)) dX6_weigh_111 (by decide) ?_
  refine mm_aload_n C (pc := 112) 0 dX6_weigh_112 rfl ?_
  replace hK := mm_bd hK; obtain ⟨v113, e113, hK⟩ := hK
  refine mm_getr C (pc := 113) (k := 2) inGX6 rfl (by decide) wd_297 dX6_weigh_113 e113 ?_
  refine mm_iconst C (pc := 116) (v := (0 : Int32)) dX6_weigh_116 (by decide) ?_
  refine mm_aload_n C (pc := 117) 1 dX6_weigh_117 rfl ?_
  replace hK := mm_bd hK; obtain ⟨v118, e118, hK⟩ := hK
  refine mm_geti C (pc := 118) (k := 0) inGX8 rfl (by decide) wd_774 dX6_weigh_118 e118 ?_
  replace hK := mm_bd hK; obtain ⟨h121, e121, hK⟩ := hK
  refine mm_copy C (pc := 121) wd_1117 wd_554 wd_553 wd_166 (by omega) (by simp [mm_crf, mm_cti, mm_ctl]) dX6_weigh_121 e121 ?_
  refine mm_sub C [] rfl ?_
  exact w_X6_weigh_124 hd C _ hK
def F_X6_weigh_82 (l0 : Option Nat) (l1 : Option Nat) (l2 : Int32) (h : MH) : Option MH := (gI h l0 6 6).bind fun v83 => if v83 = 0 then (F_X6_weigh_97 l0 l1 l2 h) else ((gI h l0 6 7).bind fun v91 => if l2 ≤ v91 then (F_X6_weigh_124 h) else (F_X6_weigh_97 l0 l1 l2 h))
set_option maxRecDepth 20000 in
set_option maxHeartbeats 4000000 in
theorem w_X6_weigh_82 {d : Nat} {V : Nat → List (Nat × Value) → List Value → MH → Prop} {hz : MH} (hd : 4 ≤ d) (C : mm_C d yX6_weigh cX6_weigh 4 none (.inr none) hz V) (l0 : Option Nat) (l1 : Option Nat) (l2 : Int32) (h : MH) (hK : F_X6_weigh_82 l0 l1 l2 h = some hz) : V 82 [(0, va_rf l0), (1, va_rf l1), (2, .int l2)] [] h := by
  unfold F_X6_weigh_82 at hK
  refine mm_aload_n C (pc := 82) 0 dX6_weigh_82 rfl ?_
  replace hK := mm_bd hK; obtain ⟨v83, e83, hK⟩ := hK
  refine mm_geti C (pc := 83) (k := 6) inGX6 rfl (by decide) wd_301 dX6_weigh_83 e83 ?_
  refine mm_if_eq C (pc := 86) (tgt := 97) dX6_weigh_86 (by decide) (fun hc => ?_) (fun hc => ?_)
  · replace hK := mm_ip hc hK
    exact w_X6_weigh_97 hd C _ _ _ _ hK
  · replace hK := mm_in hc hK
    refine mm_iload_n C (pc := 89) 2 dX6_weigh_89 rfl ?_
    refine mm_aload_n C (pc := 90) 0 dX6_weigh_90 rfl ?_
    replace hK := mm_bd hK; obtain ⟨v91, e91, hK⟩ := hK
    refine mm_geti C (pc := 91) (k := 7) inGX6 rfl (by decide) wd_302 dX6_weigh_91 e91 ?_
    refine mm_icmp_le C (pc := 94) (tgt := 124) dX6_weigh_94 (by decide) (fun hc => ?_) (fun hc => ?_)
    · replace hK := mm_ip hc hK
      refine mm_sub C [] rfl ?_
      exact w_X6_weigh_124 hd C _ hK
    · replace hK := mm_in hc hK
      exact w_X6_weigh_97 hd C _ _ _ _ hK
def F_X6_weigh_50 : Nat → Option Nat → Option Nat → Int32 → Int32 → MH → Option MH
  | 0 => fun _ _ _ _ _ => none
  | n + 1 => fun l0 l1 l2 l3 h => (gI h l1 8 0).bind fun v52 => if v52 ≤ l3 then (F_X6_weigh_82 l0 l1 l2 h) else (if (8 : Int32) ≤ l3 then (F_X6_weigh_82 l0 l1 l2 h) else ((gR h l0 6 0).bind fun v67 => mm_b2 (F_X6_contentment l1 v67 l3 h) fun v71 h71 => F_X6_weigh_50 n l0 l1 (l2 + v71) (l3 + (1 : Int32)) h71))
set_option maxRecDepth 20000 in
set_option maxHeartbeats 4000000 in
theorem w_X6_weigh_50 {d : Nat} {V : Nat → List (Nat × Value) → List Value → MH → Prop} {hz : MH} (hd : 4 ≤ d) (C : mm_C d yX6_weigh cX6_weigh 4 none (.inr none) hz V) : ∀ (n : Nat) (l0 : Option Nat) (l1 : Option Nat) (l2 : Int32) (l3 : Int32) (h : MH), F_X6_weigh_50 n l0 l1 l2 l3 h = some hz → V 50 [(0, va_rf l0), (1, va_rf l1), (2, .int l2), (3, .int l3)] [] h := by
  intro n
  induction n with
  | zero => intro l0 l1 l2 l3 h hK; cases hK
  | succ n ih =>
    intro l0 l1 l2 l3 h hK
    replace hK : ((gI h l1 8 0).bind fun v52 => if v52 ≤ l3 then (F_X6_weigh_82 l0 l1 l2 h) else (if (8 : Int32) ≤ l3 then (F_X6_weigh_82 l0 l1 l2 h) else ((gR h l0 6 0).bind fun v67 => mm_b2 (F_X6_contentment l1 v67 l3 h) fun v71 h71 => F_X6_weigh_50 n l0 l1 (l2 + v71) (l3 + (1 : Int32)) h71))) = some hz := hK
    refine mm_iload_n C (pc := 50) 3 dX6_weigh_50 rfl ?_
    refine mm_aload_n C (pc := 51) 1 dX6_weigh_51 rfl ?_
    replace hK := mm_bd hK; obtain ⟨v52, e52, hK⟩ := hK
    refine mm_geti C (pc := 52) (k := 0) inGX8 rfl (by decide) wd_774 dX6_weigh_52 e52 ?_
    refine mm_icmp_ge C (pc := 55) (tgt := 82) dX6_weigh_55 (by decide) (fun hc => ?_) (fun hc => ?_)
    · replace hK := mm_ip hc hK
      refine mm_sub C [0, 1, 2] rfl ?_
      exact w_X6_weigh_82 hd C _ _ _ _ hK
    · replace hK := mm_in hc hK
      refine mm_iload_n C (pc := 58) 3 dX6_weigh_58 rfl ?_
      refine mm_bipush C (pc := 59) (v := (8 : Int32)) dX6_weigh_59 (by decide) ?_
      refine mm_icmp_ge C (pc := 61) (tgt := 82) dX6_weigh_61 (by decide) (fun hc => ?_) (fun hc => ?_)
      · replace hK := mm_ip hc hK
        refine mm_sub C [0, 1, 2] rfl ?_
        exact w_X6_weigh_82 hd C _ _ _ _ hK
      · replace hK := mm_in hc hK
        refine mm_iload_n C (pc := 64) 2 dX6_weigh_64 rfl ?_
        refine mm_aload_n C (pc := 65) 1 dX6_weigh_65 rfl ?_
        refine mm_aload_n C (pc := 66) 0 dX6_weigh_66 rfl ?_
        replace hK := mm_bd hK; obtain ⟨v67, e67, hK⟩ := hK
        refine mm_getr C (pc := 67) (k := 0) inGX6 rfl (by decide) wd_295 dX6_weigh_67 e67 ?_
        refine mm_iload_n C (pc := 70) 3 dX6_weigh_70 rfl ?_
        replace hK := mm_b2s hK; obtain ⟨v71, h71, e71, hK⟩ := hK
        refine mm_callS C (pc := 71) (d1 := 2) (As := [va_rf l1, va_rf v67, .int l3]) (st := [.int l2]) (vk := (some (.int v71))) ((S_X6_contentment (by omega)) e71) tT_X6_contentment wd_1114 wd_1115 (by omega) (by decide) rfl (by simp [mm_crf, mm_cti, mm_ctl]) rfl dX6_weigh_71 ?_
        show V _ _ (.int v71 :: _) _
        refine mm_iadd C (pc := 74) dX6_weigh_74 ?_
        refine mm_istore_n C (pc := 75) (i := 2) (lv' := [(2, .int (l2 + v71)), (0, va_rf l0), (1, va_rf l1), (3, .int l3)]) dX6_weigh_75 rfl (by decide) (by simp [mm_crf]) ?_
        refine mm_iinc C (pc := 76) (v := (l3 + (1 : Int32))) (lv' := [(3, .int (l3 + (1 : Int32))), (2, .int (l2 + v71)), (0, va_rf l0), (1, va_rf l1)]) 3 dX6_weigh_76 rfl rfl (by decide) rfl ?_
        refine mm_goto C (pc := 79) (tgt := 50) dX6_weigh_79 (by decide) ?_
        refine mm_sub C [2, 3, 1, 0] rfl ?_
        exact ih _ _ _ _ _ hK
def F_X6_weigh_46 (l0 : Option Nat) (l1 : Option Nat) (h : MH) : Option MH := F_X6_weigh_50 mm_N l0 l1 (0 : Int32) (0 : Int32) h
set_option maxRecDepth 20000 in
set_option maxHeartbeats 4000000 in
theorem w_X6_weigh_46 {d : Nat} {V : Nat → List (Nat × Value) → List Value → MH → Prop} {hz : MH} (hd : 4 ≤ d) (C : mm_C d yX6_weigh cX6_weigh 4 none (.inr none) hz V) (l0 : Option Nat) (l1 : Option Nat) (h : MH) (hK : F_X6_weigh_46 l0 l1 h = some hz) : V 46 [(0, va_rf l0), (1, va_rf l1)] [] h := by
  unfold F_X6_weigh_46 at hK
  refine mm_iconst C (pc := 46) (v := (0 : Int32)) dX6_weigh_46 (by decide) ?_
  refine mm_istore_n C (pc := 47) (i := 2) (lv' := [(2, .int (0 : Int32)), (0, va_rf l0), (1, va_rf l1)]) dX6_weigh_47 rfl (by decide) (by simp [mm_crf]) ?_
  refine mm_iconst C (pc := 48) (v := (0 : Int32)) dX6_weigh_48 (by decide) ?_
  refine mm_istore_n C (pc := 49) (i := 3) (lv' := [(3, .int (0 : Int32)), (2, .int (0 : Int32)), (0, va_rf l0), (1, va_rf l1)]) dX6_weigh_49 rfl (by decide) rfl ?_
  refine mm_sub C [2, 3, 1, 0] rfl ?_
  exact w_X6_weigh_50 hd C _ _ _ _ _ _ hK
def F_X6_weigh_36 (l0 : Option Nat) (l1 : Option Nat) (h : MH) : Option MH := (gI h l0 6 5).bind fun v38 => (pI h l0 6 5 (v38 + (1 : Int32))).bind fun h43 => F_X6_weigh_46 l0 l1 h43
set_option maxRecDepth 20000 in
set_option maxHeartbeats 4000000 in
theorem w_X6_weigh_36 {d : Nat} {V : Nat → List (Nat × Value) → List Value → MH → Prop} {hz : MH} (hd : 4 ≤ d) (C : mm_C d yX6_weigh cX6_weigh 4 none (.inr none) hz V) (l0 : Option Nat) (l1 : Option Nat) (h : MH) (hK : F_X6_weigh_36 l0 l1 h = some hz) : V 36 [(0, va_rf l0), (1, va_rf l1)] [] h := by
  unfold F_X6_weigh_36 at hK
  refine mm_aload_n C (pc := 36) 0 dX6_weigh_36 rfl ?_
  refine mm_dup C (pc := 37) dX6_weigh_37 mm_crf ?_
  replace hK := mm_bd hK; obtain ⟨v38, e38, hK⟩ := hK
  refine mm_geti C (pc := 38) (k := 5) inGX6 rfl (by decide) wd_300 dX6_weigh_38 e38 ?_
  refine mm_iconst C (pc := 41) (v := (1 : Int32)) dX6_weigh_41 (by decide) ?_
  refine mm_iadd C (pc := 42) dX6_weigh_42 ?_
  replace hK := mm_bd hK; obtain ⟨h43, e43, hK⟩ := hK
  refine mm_puti C (pc := 43) (k := 5) false (fun z => by cases z) inGX6 tyX6 tyX6_ok nmX6 rfl (by decide) wd_300 rfl rfl dX6_weigh_43 e43 ?_
  exact w_X6_weigh_46 hd C _ _ _ hK
def F_X6_weigh (a0 : Option Nat) (a1 : Option Nat) (h : MH) : Option MH := (gR h a0 6 0).bind fun v2 => mm_b2 (F_X6_firstToPart a1 v2 h) fun v5 h5 => if v5 = ((-1) : Int32) then ((gI h5 a0 6 5).bind fun v13 => if v13 = 0 then ((gR h5 a0 6 0).bind fun v20 => (gR h5 a0 6 1).bind fun v25 => (gI h5 a1 8 0).bind fun v30 => (cpI h5 v20 (0 : Int32) v25 (0 : Int32) v30).bind fun h33 => F_X6_weigh_36 a0 a1 h33) else (F_X6_weigh_36 a0 a1 h5)) else (F_X6_weigh_46 a0 a1 h5)
set_option maxRecDepth 20000 in
set_option maxHeartbeats 4000000 in
theorem S_X6_weigh {d : Nat} (hd : 4 ≤ d) {a0 : Option Nat} {a1 : Option Nat} {h : MH} {hz : MH} (hK : F_X6_weigh a0 a1 h = some hz) : mm_M yX6_weigh cX6_weigh 4 none d [va_rf a0, va_rf a1] h (.inr none) hz := by
  refine mm_ofV (by decide +kernel) (by simp [lg_sl, mm_crf, mm_cti, mm_ctl]) (fun V C => ?_)
  rw [show lv_args 0 [va_rf a0, va_rf a1] = [(0, va_rf a0), (1, va_rf a1)] by simp [lv_args, mm_crf, mm_cti, mm_ctl]]
  unfold F_X6_weigh at hK
  refine mm_aload_n C (pc := 0) 1 dX6_weigh_0 rfl ?_
  refine mm_aload_n C (pc := 1) 0 dX6_weigh_1 rfl ?_
  replace hK := mm_bd hK; obtain ⟨v2, e2, hK⟩ := hK
  refine mm_getr C (pc := 2) (k := 0) inGX6 rfl (by decide) wd_295 dX6_weigh_2 e2 ?_
  replace hK := mm_b2s hK; obtain ⟨v5, h5, e5, hK⟩ := hK
  refine mm_callS C (pc := 5) (d1 := 3) (As := [va_rf a1, va_rf v2]) (st := []) (vk := (some (.int v5))) ((S_X6_firstToPart (by omega)) e5) tT_X6_firstToPart wd_1110 wd_1111 (by omega) (by decide) rfl (by simp [mm_crf, mm_cti, mm_ctl]) rfl dX6_weigh_5 ?_
  show V _ _ (.int v5 :: _) _
  refine mm_iconst C (pc := 8) (v := ((-1) : Int32)) dX6_weigh_8 (by decide) ?_
  refine mm_icmp_ne C (pc := 9) (tgt := 46) dX6_weigh_9 (by decide) (fun hc => ?_) (fun hc => ?_)
  · replace hK := mm_in hc hK
    exact w_X6_weigh_46 hd C _ _ _ hK
  · replace hK := mm_ip hc hK
    refine mm_aload_n C (pc := 12) 0 dX6_weigh_12 rfl ?_
    replace hK := mm_bd hK; obtain ⟨v13, e13, hK⟩ := hK
    refine mm_geti C (pc := 13) (k := 5) inGX6 rfl (by decide) wd_300 dX6_weigh_13 e13 ?_
    refine mm_if_ne C (pc := 16) (tgt := 36) dX6_weigh_16 (by decide) (fun hc => ?_) (fun hc => ?_)
    · replace hK := mm_in hc hK
      exact w_X6_weigh_36 hd C _ _ _ hK
    · replace hK := mm_ip hc hK
      refine mm_aload_n C (pc := 19) 0 dX6_weigh_19 rfl ?_
      replace hK := mm_bd hK; obtain ⟨v20, e20, hK⟩ := hK
      refine mm_getr C (pc := 20) (k := 0) inGX6 rfl (by decide) wd_295 dX6_weigh_20 e20 ?_
      refine mm_iconst C (pc := 23) (v := (0 : Int32)) dX6_weigh_23 (by decide) ?_
      refine mm_aload_n C (pc := 24) 0 dX6_weigh_24 rfl ?_
      replace hK := mm_bd hK; obtain ⟨v25, e25, hK⟩ := hK
      refine mm_getr C (pc := 25) (k := 1) inGX6 rfl (by decide) wd_296 dX6_weigh_25 e25 ?_
      refine mm_iconst C (pc := 28) (v := (0 : Int32)) dX6_weigh_28 (by decide) ?_
      refine mm_aload_n C (pc := 29) 1 dX6_weigh_29 rfl ?_
      replace hK := mm_bd hK; obtain ⟨v30, e30, hK⟩ := hK
      refine mm_geti C (pc := 30) (k := 0) inGX8 rfl (by decide) wd_774 dX6_weigh_30 e30 ?_
      replace hK := mm_bd hK; obtain ⟨h33, e33, hK⟩ := hK
      refine mm_copy C (pc := 33) wd_1117 wd_554 wd_553 wd_166 (by omega) (by simp [mm_crf, mm_cti, mm_ctl]) dX6_weigh_33 e33 ?_
      exact w_X6_weigh_36 hd C _ _ _ hK
theorem wd_1109 : Cond.code yX6_weigh cX6_weigh 4 none ∈ lw_good := mm_wd 1109 (by decide +kernel) (by decide +kernel)
theorem tT_X6_weigh : mm_T yX6_weigh cX6_weigh 4 none 1 := ⟨wd_1109, wd_147, by decide +kernel, by decide +kernel, by decide +kernel, by decide +kernel⟩
theorem wd_1106 : Cond.methodLink RX6 54 yX6_weigh ∈ lw_good := mm_wd 1106 (by decide +kernel) (by decide +kernel)
theorem wd_1108 : Cond.instanceMethod yX6_weigh ∈ lw_good := mm_wd 1108 (by decide +kernel) (by decide +kernel)
theorem wd_14 : Cond.selects RX6 yX6_weigh yX6_weigh ∈ lw_good := mm_wd 14 (by decide +kernel) (by decide +kernel)
theorem wd_1105 : Cond.code yX6_pairFrom cX6_pairFrom 4 none ∈ lw_good := mm_wd 1105 (by decide +kernel) (by decide +kernel)
theorem tT_X6_pairFrom : mm_T yX6_pairFrom cX6_pairFrom 4 none 2 := ⟨wd_1105, wd_147, by decide +kernel, by decide +kernel, by decide +kernel, by decide +kernel⟩
theorem wd_1102 : Cond.methodLink RX6 45 yX6_pairFrom ∈ lw_good := mm_wd 1102 (by decide +kernel) (by decide +kernel)
theorem wd_1104 : Cond.instanceMethod yX6_pairFrom ∈ lw_good := mm_wd 1104 (by decide +kernel) (by decide +kernel)
theorem wd_13 : Cond.selects RX6 yX6_pairFrom yX6_pairFrom ∈ lw_good := mm_wd 13 (by decide +kernel) (by decide +kernel)
abbrev PT_X6_pairFrom : Type := (Option Nat → Option Nat → Int32 → MH → Option MH)
def PH_X6_pairFrom (p : PT_X6_pairFrom) (d0 : Nat) : Prop := (∀ d : Nat, d0 ≤ d → ∀ {a0 : Option Nat} {a1 : Option Nat} {a2 : Int32} {h : MH} {hz : MH}, p a0 a1 a2 h = some hz → mm_M yX6_pairFrom cX6_pairFrom 4 none d [va_rf a0, va_rf a1, .int a2] h (.inr none) hz)
def F_X6_pairFrom_18 (p : PT_X6_pairFrom) (l0 : Option Nat) (l1 : Option Nat) (h : MH) : Option MH := (cV h l0 6 (F_X6_weigh l0 l1 h)).bind fun h20 => some h20
set_option maxRecDepth 20000 in
set_option maxHeartbeats 4000000 in
theorem w_X6_pairFrom_18 {d : Nat} {V : Nat → List (Nat × Value) → List Value → MH → Prop} {hz : MH} {p : PT_X6_pairFrom} {d0 : Nat} (hd0 : d0 + 1 ≤ d) (hp : PH_X6_pairFrom p d0) (hd : 5 ≤ d) (C : mm_C d yX6_pairFrom cX6_pairFrom 4 none (.inr none) hz V) (l0 : Option Nat) (l1 : Option Nat) (h : MH) (hK : F_X6_pairFrom_18 p l0 l1 h = some hz) : V 18 [(0, va_rf l0), (1, va_rf l1)] [] h := by
  unfold F_X6_pairFrom_18 at hK
  refine mm_aload_n C (pc := 18) 0 dX6_pairFrom_18 rfl ?_
  refine mm_aload_n C (pc := 19) 1 dX6_pairFrom_19 rfl ?_
  replace hK := mm_bd hK; obtain ⟨h20, e20, hK⟩ := hK
  obtain ⟨o20, e20⟩ := cV_some e20
  refine mm_callV C (pc := 20) (d1 := 4) (As := [va_rf l1]) (st := []) (vk := none) ((S_X6_weigh (by omega)) e20) tT_X6_weigh o20 (Or.inr ⟨_, rfl, rfl⟩) wd_1106 wd_1108 wd_14 (by omega) (by decide) rfl (by simp [mm_crf, mm_cti, mm_ctl]) rfl dX6_pairFrom_20 ?_
  show V _ _ [] _
  cases hK
  exact mm_vret C (pc := 23) rfl dX6_pairFrom_23 rfl rfl
def F_X6_pairFrom_151 (p : PT_X6_pairFrom) (l0 : Option Nat) (l2 : Int32) (h : MH) : Option MH := (gR h l0 6 0).bind fun v152 => (sI h v152 0 l2 ((-2) : Int32)).bind fun h158 => some h158
set_option maxRecDepth 20000 in
set_option maxHeartbeats 4000000 in
theorem w_X6_pairFrom_151 {d : Nat} {V : Nat → List (Nat × Value) → List Value → MH → Prop} {hz : MH} {p : PT_X6_pairFrom} {d0 : Nat} (hd0 : d0 + 1 ≤ d) (hp : PH_X6_pairFrom p d0) (hd : 5 ≤ d) (C : mm_C d yX6_pairFrom cX6_pairFrom 4 none (.inr none) hz V) (l0 : Option Nat) (l2 : Int32) (h : MH) (hK : F_X6_pairFrom_151 p l0 l2 h = some hz) : V 151 [(0, va_rf l0), (2, .int l2)] [] h := by
  unfold F_X6_pairFrom_151 at hK
  refine mm_aload_n C (pc := 151) 0 dX6_pairFrom_151 rfl ?_
  replace hK := mm_bd hK; obtain ⟨v152, e152, hK⟩ := hK
  refine mm_getr C (pc := 152) (k := 0) inGX6 rfl (by decide) wd_295 dX6_pairFrom_152 e152 ?_
  refine mm_iload_n C (pc := 155) 1 dX6_pairFrom_155 rfl ?_
  refine mm_bipush C (pc := 156) (v := ((-2) : Int32)) dX6_pairFrom_156 (by decide) ?_
  replace hK := mm_bd hK; obtain ⟨h158, e158, hK⟩ := hK
  refine mm_iast C (pc := 158) dX6_pairFrom_158 e158 ?_
  cases hK
  exact mm_vret C (pc := 159) rfl dX6_pairFrom_159 rfl rfl
def F_X6_pairFrom_109 (p : PT_X6_pairFrom) (l0 : Option Nat) (l1 : Option Nat) (l2 : Int32) (h : MH) : Option MH := (gI h l1 8 0).bind fun v110 => if (v110 - v110 / (2 : Int32) * (2 : Int32)) = (1 : Int32) then ((gI h l0 6 4).bind fun v120 => if v120 = 0 then ((pZ h l0 6 4 (1 : Int32)).bind fun h128 => (gR h128 l0 6 0).bind fun v132 => (sI h128 v132 0 l2 ((-1) : Int32)).bind fun h137 => (cV h137 l0 6 (p l0 l1 (l2 + (1 : Int32)) h137)).bind fun h143 => (pZ h143 l0 6 4 (0 : Int32)).bind fun h148 => F_X6_pairFrom_151 p l0 l2 h148) else (F_X6_pairFrom_151 p l0 l2 h)) else (F_X6_pairFrom_151 p l0 l2 h)
set_option maxRecDepth 20000 in
set_option maxHeartbeats 4000000 in
theorem w_X6_pairFrom_109 {d : Nat} {V : Nat → List (Nat × Value) → List Value → MH → Prop} {hz : MH} {p : PT_X6_pairFrom} {d0 : Nat} (hd0 : d0 + 1 ≤ d) (hp : PH_X6_pairFrom p d0) (hd : 5 ≤ d) (C : mm_C d yX6_pairFrom cX6_pairFrom 4 none (.inr none) hz V) (l0 : Option Nat) (l1 : Option Nat) (l2 : Int32) (h : MH) (hK : F_X6_pairFrom_109 p l0 l1 l2 h = some hz) : V 109 [(0, va_rf l0), (1, va_rf l1), (2, .int l2)] [] h := by
  unfold F_X6_pairFrom_109 at hK
  refine mm_aload_n C (pc := 109) 1 dX6_pairFrom_109 rfl ?_
  replace hK := mm_bd hK; obtain ⟨v110, e110, hK⟩ := hK
  refine mm_geti C (pc := 110) (k := 0) inGX8 rfl (by decide) wd_774 dX6_pairFrom_110 e110 ?_
  refine mm_iconst C (pc := 113) (v := (2 : Int32)) dX6_pairFrom_113 (by decide) ?_
  refine mm_irem C (pc := 114) dX6_pairFrom_114 (by decide) ?_
  refine mm_iconst C (pc := 115) (v := (1 : Int32)) dX6_pairFrom_115 (by decide) ?_
  refine mm_icmp_ne C (pc := 116) (tgt := 151) dX6_pairFrom_116 (by decide) (fun hc => ?_) (fun hc => ?_)
  · replace hK := mm_in hc hK
    refine mm_sub C [0, 2] rfl ?_
    exact w_X6_pairFrom_151 hd0 hp hd C _ _ _ hK
  · replace hK := mm_ip hc hK
    refine mm_aload_n C (pc := 119) 0 dX6_pairFrom_119 rfl ?_
    replace hK := mm_bd hK; obtain ⟨v120, e120, hK⟩ := hK
    refine mm_geti C (pc := 120) (k := 4) inGX6 rfl (by decide) wd_299 dX6_pairFrom_120 e120 ?_
    refine mm_if_ne C (pc := 123) (tgt := 151) dX6_pairFrom_123 (by decide) (fun hc => ?_) (fun hc => ?_)
    · replace hK := mm_in hc hK
      refine mm_sub C [0, 2] rfl ?_
      exact w_X6_pairFrom_151 hd0 hp hd C _ _ _ hK
    · replace hK := mm_ip hc hK
      refine mm_aload_n C (pc := 126) 0 dX6_pairFrom_126 rfl ?_
      refine mm_iconst C (pc := 127) (v := (1 : Int32)) dX6_pairFrom_127 (by decide) ?_
      replace hK := mm_bd hK; obtain ⟨h128, e128, hK⟩ := hK
      refine mm_putz C (pc := 128) (k := 4) false (fun z => by cases z) inGX6 tyX6 tyX6_ok nmX6 rfl (by decide) wd_299 rfl rfl dX6_pairFrom_128 e128 ?_
      refine mm_aload_n C (pc := 131) 0 dX6_pairFrom_131 rfl ?_
      replace hK := mm_bd hK; obtain ⟨v132, e132, hK⟩ := hK
      refine mm_getr C (pc := 132) (k := 0) inGX6 rfl (by decide) wd_295 dX6_pairFrom_132 e132 ?_
      refine mm_iload_n C (pc := 135) 2 dX6_pairFrom_135 rfl ?_
      refine mm_iconst C (pc := 136) (v := ((-1) : Int32)) dX6_pairFrom_136 (by decide) ?_
      replace hK := mm_bd hK; obtain ⟨h137, e137, hK⟩ := hK
      refine mm_iast C (pc := 137) dX6_pairFrom_137 e137 ?_
      refine mm_aload_n C (pc := 138) 0 dX6_pairFrom_138 rfl ?_
      refine mm_aload_n C (pc := 139) 1 dX6_pairFrom_139 rfl ?_
      refine mm_iload_n C (pc := 140) 2 dX6_pairFrom_140 rfl ?_
      refine mm_iconst C (pc := 141) (v := (1 : Int32)) dX6_pairFrom_141 (by decide) ?_
      refine mm_iadd C (pc := 142) dX6_pairFrom_142 ?_
      replace hK := mm_bd hK; obtain ⟨h143, e143, hK⟩ := hK
      obtain ⟨o143, e143⟩ := cV_some e143
      refine mm_callV C (pc := 143) (d1 := d0) (As := [va_rf l1, .int (l2 + (1 : Int32))]) (st := []) (vk := none) ((hp _ (by omega) ) e143) tT_X6_pairFrom o143 (Or.inr ⟨_, rfl, rfl⟩) wd_1102 wd_1104 wd_13 (by omega) (by decide) rfl (by simp [mm_crf, mm_cti, mm_ctl]) rfl dX6_pairFrom_143 ?_
      show V _ _ [] _
      refine mm_aload_n C (pc := 146) 0 dX6_pairFrom_146 rfl ?_
      refine mm_iconst C (pc := 147) (v := (0 : Int32)) dX6_pairFrom_147 (by decide) ?_
      replace hK := mm_bd hK; obtain ⟨h148, e148, hK⟩ := hK
      refine mm_putz C (pc := 148) (k := 4) false (fun z => by cases z) inGX6 tyX6 tyX6_ok nmX6 rfl (by decide) wd_299 rfl rfl dX6_pairFrom_148 e148 ?_
      refine mm_sub C [0, 2] rfl ?_
      exact w_X6_pairFrom_151 hd0 hp hd C _ _ _ hK
def F_X6_pairFrom_103 (p : PT_X6_pairFrom) (k48 : Option Nat → Option Nat → Int32 → Int32 → MH → Option MH) (l0 : Option Nat) (l1 : Option Nat) (l2 : Int32) (l3 : Int32) (h : MH) : Option MH := k48 l0 l1 l2 (l3 + (1 : Int32)) h
set_option maxRecDepth 20000 in
set_option maxHeartbeats 4000000 in
theorem w_X6_pairFrom_103 {d : Nat} {V : Nat → List (Nat × Value) → List Value → MH → Prop} {hz : MH} {p : PT_X6_pairFrom} {d0 : Nat} (hd0 : d0 + 1 ≤ d) (hp : PH_X6_pairFrom p d0) {k48 : Option Nat → Option Nat → Int32 → Int32 → MH → Option MH} (hd : 5 ≤ d) (C : mm_C d yX6_pairFrom cX6_pairFrom 4 none (.inr none) hz V) (q48 : ∀ (x0 : Option Nat) (x1 : Option Nat) (x2 : Int32) (x3 : Int32) (h : MH), k48 x0 x1 x2 x3 h = some hz → V 48 [(0, va_rf x0), (1, va_rf x1), (2, .int x2), (3, .int x3)] [] h) (l0 : Option Nat) (l1 : Option Nat) (l2 : Int32) (l3 : Int32) (h : MH) (hK : F_X6_pairFrom_103 p k48 l0 l1 l2 l3 h = some hz) : V 103 [(0, va_rf l0), (1, va_rf l1), (2, .int l2), (3, .int l3)] [] h := by
  unfold F_X6_pairFrom_103 at hK
  refine mm_iinc C (pc := 103) (v := (l3 + (1 : Int32))) (lv' := [(3, .int (l3 + (1 : Int32))), (0, va_rf l0), (1, va_rf l1), (2, .int l2)]) 3 dX6_pairFrom_103 rfl rfl (by decide) rfl ?_
  refine mm_goto C (pc := 106) (tgt := 48) dX6_pairFrom_106 (by decide) ?_
  refine mm_sub C [1, 2, 3, 0] rfl ?_
  exact q48 _ _ _ _ _ hK
def F_X6_pairFrom_48 (p : PT_X6_pairFrom) : Nat → Option Nat → Option Nat → Int32 → Int32 → MH → Option MH
  | 0 => fun _ _ _ _ _ => none
  | n + 1 => fun l0 l1 l2 l3 h => (gI h l1 8 0).bind fun v50 => if v50 ≤ l3 then (F_X6_pairFrom_109 p l0 l1 l2 h) else (if (8 : Int32) ≤ l3 then (F_X6_pairFrom_109 p l0 l1 l2 h) else ((gR h l0 6 0).bind fun v63 => (aI h v63 0 l3).bind fun v67 => if v67 = ((-2) : Int32) then ((gR h l0 6 0).bind fun v74 => (sI h v74 0 l2 l3).bind fun h79 => (gR h79 l0 6 0).bind fun v81 => (sI h79 v81 0 l3 l2).bind fun h86 => (cV h86 l0 6 (p l0 l1 (l2 + (1 : Int32)) h86)).bind fun h92 => (gR h92 l0 6 0).bind fun v96 => (sI h92 v96 0 l3 ((-2) : Int32)).bind fun h102 => F_X6_pairFrom_103 p (F_X6_pairFrom_48 p n) l0 l1 l2 l3 h102) else (F_X6_pairFrom_103 p (F_X6_pairFrom_48 p n) l0 l1 l2 l3 h)))
set_option maxRecDepth 20000 in
set_option maxHeartbeats 4000000 in
theorem w_X6_pairFrom_48 {d : Nat} {V : Nat → List (Nat × Value) → List Value → MH → Prop} {hz : MH} {p : PT_X6_pairFrom} {d0 : Nat} (hd0 : d0 + 1 ≤ d) (hp : PH_X6_pairFrom p d0) (hd : 5 ≤ d) (C : mm_C d yX6_pairFrom cX6_pairFrom 4 none (.inr none) hz V) : ∀ (n : Nat) (l0 : Option Nat) (l1 : Option Nat) (l2 : Int32) (l3 : Int32) (h : MH), F_X6_pairFrom_48 p n l0 l1 l2 l3 h = some hz → V 48 [(0, va_rf l0), (1, va_rf l1), (2, .int l2), (3, .int l3)] [] h := by
  intro n
  induction n with
  | zero => intro l0 l1 l2 l3 h hK; cases hK
  | succ n ih =>
    intro l0 l1 l2 l3 h hK
    replace hK : ((gI h l1 8 0).bind fun v50 => if v50 ≤ l3 then (F_X6_pairFrom_109 p l0 l1 l2 h) else (if (8 : Int32) ≤ l3 then (F_X6_pairFrom_109 p l0 l1 l2 h) else ((gR h l0 6 0).bind fun v63 => (aI h v63 0 l3).bind fun v67 => if v67 = ((-2) : Int32) then ((gR h l0 6 0).bind fun v74 => (sI h v74 0 l2 l3).bind fun h79 => (gR h79 l0 6 0).bind fun v81 => (sI h79 v81 0 l3 l2).bind fun h86 => (cV h86 l0 6 (p l0 l1 (l2 + (1 : Int32)) h86)).bind fun h92 => (gR h92 l0 6 0).bind fun v96 => (sI h92 v96 0 l3 ((-2) : Int32)).bind fun h102 => F_X6_pairFrom_103 p (F_X6_pairFrom_48 p n) l0 l1 l2 l3 h102) else (F_X6_pairFrom_103 p (F_X6_pairFrom_48 p n) l0 l1 l2 l3 h)))) = some hz := hK
    refine mm_iload_n C (pc := 48) 3 dX6_pairFrom_48 rfl ?_
    refine mm_aload_n C (pc := 49) 1 dX6_pairFrom_49 rfl ?_
    replace hK := mm_bd hK; obtain ⟨v50, e50, hK⟩ := hK
    refine mm_geti C (pc := 50) (k := 0) inGX8 rfl (by decide) wd_774 dX6_pairFrom_50 e50 ?_
    refine mm_icmp_ge C (pc := 53) (tgt := 109) dX6_pairFrom_53 (by decide) (fun hc => ?_) (fun hc => ?_)
    · replace hK := mm_ip hc hK
      refine mm_sub C [0, 1, 2] rfl ?_
      exact w_X6_pairFrom_109 hd0 hp hd C _ _ _ _ hK
    · replace hK := mm_in hc hK
      refine mm_iload_n C (pc := 56) 3 dX6_pairFrom_56 rfl ?_
      refine mm_bipush C (pc := 57) (v := (8 : Int32)) dX6_pairFrom_57 (by decide) ?_
      refine mm_icmp_ge C (pc := 59) (tgt := 109) dX6_pairFrom_59 (by decide) (fun hc => ?_) (fun hc => ?_)
      · replace hK := mm_ip hc hK
        refine mm_sub C [0, 1, 2] rfl ?_
        exact w_X6_pairFrom_109 hd0 hp hd C _ _ _ _ hK
      · replace hK := mm_in hc hK
        refine mm_aload_n C (pc := 62) 0 dX6_pairFrom_62 rfl ?_
        replace hK := mm_bd hK; obtain ⟨v63, e63, hK⟩ := hK
        refine mm_getr C (pc := 63) (k := 0) inGX6 rfl (by decide) wd_295 dX6_pairFrom_63 e63 ?_
        refine mm_iload_n C (pc := 66) 3 dX6_pairFrom_66 rfl ?_
        replace hK := mm_bd hK; obtain ⟨v67, e67, hK⟩ := hK
        refine mm_iald C (pc := 67) dX6_pairFrom_67 e67 ?_
        refine mm_bipush C (pc := 68) (v := ((-2) : Int32)) dX6_pairFrom_68 (by decide) ?_
        refine mm_icmp_ne C (pc := 70) (tgt := 103) dX6_pairFrom_70 (by decide) (fun hc => ?_) (fun hc => ?_)
        · replace hK := mm_in hc hK
          exact w_X6_pairFrom_103 hd0 hp hd C (fun z0 z1 z2 z3 z4 hK => ih z0 z1 z2 z3 z4 hK) _ _ _ _ _ hK
        · replace hK := mm_ip hc hK
          refine mm_aload_n C (pc := 73) 0 dX6_pairFrom_73 rfl ?_
          replace hK := mm_bd hK; obtain ⟨v74, e74, hK⟩ := hK
          refine mm_getr C (pc := 74) (k := 0) inGX6 rfl (by decide) wd_295 dX6_pairFrom_74 e74 ?_
          refine mm_iload_n C (pc := 77) 2 dX6_pairFrom_77 rfl ?_
          refine mm_iload_n C (pc := 78) 3 dX6_pairFrom_78 rfl ?_
          replace hK := mm_bd hK; obtain ⟨h79, e79, hK⟩ := hK
          refine mm_iast C (pc := 79) dX6_pairFrom_79 e79 ?_
          refine mm_aload_n C (pc := 80) 0 dX6_pairFrom_80 rfl ?_
          replace hK := mm_bd hK; obtain ⟨v81, e81, hK⟩ := hK
          refine mm_getr C (pc := 81) (k := 0) inGX6 rfl (by decide) wd_295 dX6_pairFrom_81 e81 ?_
          refine mm_iload_n C (pc := 84) 3 dX6_pairFrom_84 rfl ?_
          refine mm_iload_n C (pc := 85) 2 dX6_pairFrom_85 rfl ?_
          replace hK := mm_bd hK; obtain ⟨h86, e86, hK⟩ := hK
          refine mm_iast C (pc := 86) dX6_pairFrom_86 e86 ?_
          refine mm_aload_n C (pc := 87) 0 dX6_pairFrom_87 rfl ?_
          refine mm_aload_n C (pc := 88) 1 dX6_pairFrom_88 rfl ?_
          refine mm_iload_n C (pc := 89) 2 dX6_pairFrom_89 rfl ?_
          refine mm_iconst C (pc := 90) (v := (1 : Int32)) dX6_pairFrom_90 (by decide) ?_
          refine mm_iadd C (pc := 91) dX6_pairFrom_91 ?_
          replace hK := mm_bd hK; obtain ⟨h92, e92, hK⟩ := hK
          obtain ⟨o92, e92⟩ := cV_some e92
          refine mm_callV C (pc := 92) (d1 := d0) (As := [va_rf l1, .int (l2 + (1 : Int32))]) (st := []) (vk := none) ((hp _ (by omega) ) e92) tT_X6_pairFrom o92 (Or.inr ⟨_, rfl, rfl⟩) wd_1102 wd_1104 wd_13 (by omega) (by decide) rfl (by simp [mm_crf, mm_cti, mm_ctl]) rfl dX6_pairFrom_92 ?_
          show V _ _ [] _
          refine mm_aload_n C (pc := 95) 0 dX6_pairFrom_95 rfl ?_
          replace hK := mm_bd hK; obtain ⟨v96, e96, hK⟩ := hK
          refine mm_getr C (pc := 96) (k := 0) inGX6 rfl (by decide) wd_295 dX6_pairFrom_96 e96 ?_
          refine mm_iload_n C (pc := 99) 3 dX6_pairFrom_99 rfl ?_
          refine mm_bipush C (pc := 100) (v := ((-2) : Int32)) dX6_pairFrom_100 (by decide) ?_
          replace hK := mm_bd hK; obtain ⟨h102, e102, hK⟩ := hK
          refine mm_iast C (pc := 102) dX6_pairFrom_102 e102 ?_
          exact w_X6_pairFrom_103 hd0 hp hd C (fun z0 z1 z2 z3 z4 hK => ih z0 z1 z2 z3 z4 hK) _ _ _ _ _ hK
def F_X6_pairFrom (p : PT_X6_pairFrom) (a0 : Option Nat) (a1 : Option Nat) (a2 : Int32) (h : MH) : Option MH := if a2 < 0 then (F_X6_pairFrom_18 p a0 a1 h) else ((gI h a1 8 0).bind fun v6 => if v6 ≤ a2 then (F_X6_pairFrom_18 p a0 a1 h) else (if a2 < (8 : Int32) then ((gR h a0 6 0).bind fun v25 => (aI h v25 0 a2).bind fun v29 => if v29 = ((-2) : Int32) then (F_X6_pairFrom_48 p mm_N a0 a1 a2 (a2 + (1 : Int32)) h) else ((cV h a0 6 (p a0 a1 (a2 + (1 : Int32)) h)).bind fun h40 => some h40)) else (F_X6_pairFrom_18 p a0 a1 h)))
set_option maxRecDepth 20000 in
set_option maxHeartbeats 4000000 in
theorem S_X6_pairFrom {d : Nat} {p : PT_X6_pairFrom} {d0 : Nat} (hd0 : d0 + 1 ≤ d) (hp : PH_X6_pairFrom p d0) (hd : 5 ≤ d) {a0 : Option Nat} {a1 : Option Nat} {a2 : Int32} {h : MH} {hz : MH} (hK : F_X6_pairFrom p a0 a1 a2 h = some hz) : mm_M yX6_pairFrom cX6_pairFrom 4 none d [va_rf a0, va_rf a1, .int a2] h (.inr none) hz := by
  refine mm_ofV (by decide +kernel) (by simp [lg_sl, mm_crf, mm_cti, mm_ctl]) (fun V C => ?_)
  rw [show lv_args 0 [va_rf a0, va_rf a1, .int a2] = [(0, va_rf a0), (1, va_rf a1), (2, .int a2)] by simp [lv_args, mm_crf, mm_cti, mm_ctl]]
  unfold F_X6_pairFrom at hK
  refine mm_iload_n C (pc := 0) 2 dX6_pairFrom_0 rfl ?_
  refine mm_if_lt C (pc := 1) (tgt := 18) dX6_pairFrom_1 (by decide) (fun hc => ?_) (fun hc => ?_)
  · replace hK := mm_ip hc hK
    refine mm_sub C [0, 1] rfl ?_
    exact w_X6_pairFrom_18 hd0 hp hd C _ _ _ hK
  · replace hK := mm_in hc hK
    refine mm_iload_n C (pc := 4) 2 dX6_pairFrom_4 rfl ?_
    refine mm_aload_n C (pc := 5) 1 dX6_pairFrom_5 rfl ?_
    replace hK := mm_bd hK; obtain ⟨v6, e6, hK⟩ := hK
    refine mm_geti C (pc := 6) (k := 0) inGX8 rfl (by decide) wd_774 dX6_pairFrom_6 e6 ?_
    refine mm_icmp_ge C (pc := 9) (tgt := 18) dX6_pairFrom_9 (by decide) (fun hc => ?_) (fun hc => ?_)
    · replace hK := mm_ip hc hK
      refine mm_sub C [0, 1] rfl ?_
      exact w_X6_pairFrom_18 hd0 hp hd C _ _ _ hK
    · replace hK := mm_in hc hK
      refine mm_iload_n C (pc := 12) 2 dX6_pairFrom_12 rfl ?_
      refine mm_bipush C (pc := 13) (v := (8 : Int32)) dX6_pairFrom_13 (by decide) ?_
      refine mm_icmp_lt C (pc := 15) (tgt := 24) dX6_pairFrom_15 (by decide) (fun hc => ?_) (fun hc => ?_)
      · replace hK := mm_ip hc hK
        refine mm_aload_n C (pc := 24) 0 dX6_pairFrom_24 rfl ?_
        replace hK := mm_bd hK; obtain ⟨v25, e25, hK⟩ := hK
        refine mm_getr C (pc := 25) (k := 0) inGX6 rfl (by decide) wd_295 dX6_pairFrom_25 e25 ?_
        refine mm_iload_n C (pc := 28) 2 dX6_pairFrom_28 rfl ?_
        replace hK := mm_bd hK; obtain ⟨v29, e29, hK⟩ := hK
        refine mm_iald C (pc := 29) dX6_pairFrom_29 e29 ?_
        refine mm_bipush C (pc := 30) (v := ((-2) : Int32)) dX6_pairFrom_30 (by decide) ?_
        refine mm_icmp_eq C (pc := 32) (tgt := 44) dX6_pairFrom_32 (by decide) (fun hc => ?_) (fun hc => ?_)
        · replace hK := mm_ip hc hK
          refine mm_iload_n C (pc := 44) 2 dX6_pairFrom_44 rfl ?_
          refine mm_iconst C (pc := 45) (v := (1 : Int32)) dX6_pairFrom_45 (by decide) ?_
          refine mm_iadd C (pc := 46) dX6_pairFrom_46 ?_
          refine mm_istore_n C (pc := 47) (i := 3) (lv' := [(3, .int (a2 + (1 : Int32))), (0, va_rf a0), (1, va_rf a1), (2, .int a2)]) dX6_pairFrom_47 rfl (by decide) rfl ?_
          refine mm_sub C [1, 2, 3, 0] rfl ?_
          exact w_X6_pairFrom_48 hd0 hp hd C _ _ _ _ _ _ hK
        · replace hK := mm_in hc hK
          refine mm_aload_n C (pc := 35) 0 dX6_pairFrom_35 rfl ?_
          refine mm_aload_n C (pc := 36) 1 dX6_pairFrom_36 rfl ?_
          refine mm_iload_n C (pc := 37) 2 dX6_pairFrom_37 rfl ?_
          refine mm_iconst C (pc := 38) (v := (1 : Int32)) dX6_pairFrom_38 (by decide) ?_
          refine mm_iadd C (pc := 39) dX6_pairFrom_39 ?_
          replace hK := mm_bd hK; obtain ⟨h40, e40, hK⟩ := hK
          obtain ⟨o40, e40⟩ := cV_some e40
          refine mm_callV C (pc := 40) (d1 := d0) (As := [va_rf a1, .int (a2 + (1 : Int32))]) (st := []) (vk := none) ((hp _ (by omega) ) e40) tT_X6_pairFrom o40 (Or.inr ⟨_, rfl, rfl⟩) wd_1102 wd_1104 wd_13 (by omega) (by decide) rfl (by simp [mm_crf, mm_cti, mm_ctl]) rfl dX6_pairFrom_40 ?_
          show V _ _ [] _
          cases hK
          exact mm_vret C (pc := 43) rfl dX6_pairFrom_43 rfl rfl
      · replace hK := mm_in hc hK
        refine mm_sub C [0, 1] rfl ?_
        exact w_X6_pairFrom_18 hd0 hp hd C _ _ _ hK
def G_X6_pairFrom : Nat → PT_X6_pairFrom
  | 0 => ((fun _ _ _ _ => none))
  | n + 1 => ((fun a0 a1 a2 h => F_X6_pairFrom (G_X6_pairFrom n) a0 a1 a2 h))
theorem S_G_X6_pairFrom : ∀ n : Nat, PH_X6_pairFrom (G_X6_pairFrom n) (5 + n) := by
  intro n
  induction n with
  | zero => exact (fun d hd _ _ _ _ _ hK => (by cases hK))
  | succ n ih => exact (fun d hd _ _ _ _ _ hK => S_X6_pairFrom (p := G_X6_pairFrom n) (d0 := 5 + n) (by omega) ih (by omega) hK)
theorem wd_1101 : Cond.methodLink RX6 39 yJ7_fill_53178 ∈ lw_good := mm_wd 1101 (by decide +kernel) (by decide +kernel)
def F_X6_survey (a0 : Option Nat) (a1 : Option Nat) (h : MH) : Option MH := (gR h a0 6 3).bind fun v1 => if rOK v1 = true ∧ rOK a1 = true then if v1 = a1 then (some h) else ((pR h a0 6 3 a1).bind fun h11 => (gR h11 a0 6 0).bind fun v15 => (F_J7_fill_53178 v15 ((-2) : Int32) h11).bind fun h20 => (gR h20 a0 6 1).bind fun v24 => (F_J7_fill_53178 v24 ((-1) : Int32) h20).bind fun h28 => (gR h28 a0 6 2).bind fun v32 => (F_J7_fill_53178 v32 ((-1) : Int32) h28).bind fun h36 => (pZ h36 a0 6 4 (0 : Int32)).bind fun h41 => (pI h41 a0 6 5 (0 : Int32)).bind fun h46 => (pZ h46 a0 6 6 (0 : Int32)).bind fun h51 => (pI h51 a0 6 7 (0 : Int32)).bind fun h56 => (cV h56 a0 6 ((G_X6_pairFrom 64) a0 a1 (0 : Int32) h56)).bind fun h62 => some h62) else none
set_option maxRecDepth 20000 in
set_option maxHeartbeats 4000000 in
theorem S_X6_survey {d : Nat} (hd : 70 ≤ d) {a0 : Option Nat} {a1 : Option Nat} {h : MH} {hz : MH} (hK : F_X6_survey a0 a1 h = some hz) : mm_M yX6_survey cX6_survey 2 none d [va_rf a0, va_rf a1] h (.inr none) hz := by
  refine mm_ofV (by decide +kernel) (by simp [lg_sl, mm_crf, mm_cti, mm_ctl]) (fun V C => ?_)
  rw [show lv_args 0 [va_rf a0, va_rf a1] = [(0, va_rf a0), (1, va_rf a1)] by simp [lv_args, mm_crf, mm_cti, mm_ctl]]
  unfold F_X6_survey at hK
  refine mm_aload_n C (pc := 0) 0 dX6_survey_0 rfl ?_
  replace hK := mm_bd hK; obtain ⟨v1, e1, hK⟩ := hK
  refine mm_getr C (pc := 1) (k := 3) inGX6 rfl (by decide) wd_298 dX6_survey_1 e1 ?_
  refine mm_aload_n C (pc := 4) 1 dX6_survey_4 rfl ?_
  by_cases hn5 : ¬ (rOK v1 = true ∧ rOK a1 = true)
  · rw [if_neg hn5] at hK; cases hK
  have hz5 := Classical.not_not.mp hn5
  replace hK := mm_ip hz5 hK
  refine mm_acmp_ne C (pc := 5) (tgt := 9) dX6_survey_5 (by decide) hz5.1 hz5.2 (fun hc => ?_) (fun hc => ?_)
  · replace hK := mm_in hc hK
    refine mm_aload_n C (pc := 9) 0 dX6_survey_9 rfl ?_
    refine mm_aload_n C (pc := 10) 1 dX6_survey_10 rfl ?_
    replace hK := mm_bd hK; obtain ⟨h11, e11, hK⟩ := hK
    refine mm_putr C (pc := 11) (k := 3) false (fun z => by cases z) inGX6 tyX6 tyX6_ok nmX6 rfl (by decide) wd_298 rfl rfl dX6_survey_11 e11 ?_
    refine mm_aload_n C (pc := 14) 0 dX6_survey_14 rfl ?_
    replace hK := mm_bd hK; obtain ⟨v15, e15, hK⟩ := hK
    refine mm_getr C (pc := 15) (k := 0) inGX6 rfl (by decide) wd_295 dX6_survey_15 e15 ?_
    refine mm_bipush C (pc := 18) (v := ((-2) : Int32)) dX6_survey_18 (by decide) ?_
    replace hK := mm_bd hK; obtain ⟨h20, e20, hK⟩ := hK
    refine mm_callS C (pc := 20) (d1 := 1) (As := [va_rf v15, .int ((-2) : Int32)]) (st := []) (vk := none) ((S_J7_fill_53178 (by omega)) e20) tT_J7_fill_53178 wd_1101 wd_814 (by omega) (by decide) rfl (by simp [mm_crf, mm_cti, mm_ctl]) rfl dX6_survey_20 ?_
    show V _ _ [] _
    refine mm_aload_n C (pc := 23) 0 dX6_survey_23 rfl ?_
    replace hK := mm_bd hK; obtain ⟨v24, e24, hK⟩ := hK
    refine mm_getr C (pc := 24) (k := 1) inGX6 rfl (by decide) wd_296 dX6_survey_24 e24 ?_
    refine mm_iconst C (pc := 27) (v := ((-1) : Int32)) dX6_survey_27 (by decide) ?_
    replace hK := mm_bd hK; obtain ⟨h28, e28, hK⟩ := hK
    refine mm_callS C (pc := 28) (d1 := 1) (As := [va_rf v24, .int ((-1) : Int32)]) (st := []) (vk := none) ((S_J7_fill_53178 (by omega)) e28) tT_J7_fill_53178 wd_1101 wd_814 (by omega) (by decide) rfl (by simp [mm_crf, mm_cti, mm_ctl]) rfl dX6_survey_28 ?_
    show V _ _ [] _
    refine mm_aload_n C (pc := 31) 0 dX6_survey_31 rfl ?_
    replace hK := mm_bd hK; obtain ⟨v32, e32, hK⟩ := hK
    refine mm_getr C (pc := 32) (k := 2) inGX6 rfl (by decide) wd_297 dX6_survey_32 e32 ?_
    refine mm_iconst C (pc := 35) (v := ((-1) : Int32)) dX6_survey_35 (by decide) ?_
    replace hK := mm_bd hK; obtain ⟨h36, e36, hK⟩ := hK
    refine mm_callS C (pc := 36) (d1 := 1) (As := [va_rf v32, .int ((-1) : Int32)]) (st := []) (vk := none) ((S_J7_fill_53178 (by omega)) e36) tT_J7_fill_53178 wd_1101 wd_814 (by omega) (by decide) rfl (by simp [mm_crf, mm_cti, mm_ctl]) rfl dX6_survey_36 ?_
    show V _ _ [] _
    refine mm_aload_n C (pc := 39) 0 dX6_survey_39 rfl ?_
    refine mm_iconst C (pc := 40) (v := (0 : Int32)) dX6_survey_40 (by decide) ?_
    replace hK := mm_bd hK; obtain ⟨h41, e41, hK⟩ := hK
    refine mm_putz C (pc := 41) (k := 4) false (fun z => by cases z) inGX6 tyX6 tyX6_ok nmX6 rfl (by decide) wd_299 rfl rfl dX6_survey_41 e41 ?_
    refine mm_aload_n C (pc := 44) 0 dX6_survey_44 rfl ?_
    refine mm_iconst C (pc := 45) (v := (0 : Int32)) dX6_survey_45 (by decide) ?_
    replace hK := mm_bd hK; obtain ⟨h46, e46, hK⟩ := hK
    refine mm_puti C (pc := 46) (k := 5) false (fun z => by cases z) inGX6 tyX6 tyX6_ok nmX6 rfl (by decide) wd_300 rfl rfl dX6_survey_46 e46 ?_
    refine mm_aload_n C (pc := 49) 0 dX6_survey_49 rfl ?_
    refine mm_iconst C (pc := 50) (v := (0 : Int32)) dX6_survey_50 (by decide) ?_
    replace hK := mm_bd hK; obtain ⟨h51, e51, hK⟩ := hK
    refine mm_putz C (pc := 51) (k := 6) false (fun z => by cases z) inGX6 tyX6 tyX6_ok nmX6 rfl (by decide) wd_301 rfl rfl dX6_survey_51 e51 ?_
    refine mm_aload_n C (pc := 54) 0 dX6_survey_54 rfl ?_
    refine mm_iconst C (pc := 55) (v := (0 : Int32)) dX6_survey_55 (by decide) ?_
    replace hK := mm_bd hK; obtain ⟨h56, e56, hK⟩ := hK
    refine mm_puti C (pc := 56) (k := 7) false (fun z => by cases z) inGX6 tyX6 tyX6_ok nmX6 rfl (by decide) wd_302 rfl rfl dX6_survey_56 e56 ?_
    refine mm_aload_n C (pc := 59) 0 dX6_survey_59 rfl ?_
    refine mm_aload_n C (pc := 60) 1 dX6_survey_60 rfl ?_
    refine mm_iconst C (pc := 61) (v := (0 : Int32)) dX6_survey_61 (by decide) ?_
    replace hK := mm_bd hK; obtain ⟨h62, e62, hK⟩ := hK
    obtain ⟨o62, e62⟩ := cV_some e62
    refine mm_callV C (pc := 62) (d1 := 69) (As := [va_rf a1, .int (0 : Int32)]) (st := []) (vk := none) (((S_G_X6_pairFrom 64) _ (by omega)) e62) tT_X6_pairFrom o62 (Or.inr ⟨_, rfl, rfl⟩) wd_1102 wd_1104 wd_13 (by omega) (by decide) rfl (by simp [mm_crf, mm_cti, mm_ctl]) rfl dX6_survey_62 ?_
    show V _ _ [] _
    cases hK
    exact mm_vret C (pc := 65) rfl dX6_survey_65 rfl rfl
  · replace hK := mm_ip hc hK
    cases hK
    exact mm_vret C (pc := 8) rfl dX6_survey_8 rfl rfl
def F_X6_steadyWays (a0 : Option Nat) (h : MH) : Option (Int32 × MH) := (gI h a0 6 5).bind fun v1 => some (v1, h)
set_option maxRecDepth 20000 in
set_option maxHeartbeats 4000000 in
theorem S_X6_steadyWays {d : Nat} (hd : 1 ≤ d) {a0 : Option Nat} {h : MH} {r : Int32} {hz : MH} (hK : F_X6_steadyWays a0 h = some (r, hz)) : mm_M yX6_steadyWays cX6_steadyWays 1 (some .int) d [va_rf a0] h (.inr (some (.int r))) hz := by
  refine mm_ofV (by decide +kernel) (by simp [lg_sl, mm_crf, mm_cti, mm_ctl]) (fun V C => ?_)
  rw [show lv_args 0 [va_rf a0] = [(0, va_rf a0)] by simp [lv_args, mm_crf, mm_cti, mm_ctl]]
  unfold F_X6_steadyWays at hK
  refine mm_aload_n C (pc := 0) 0 dX6_steadyWays_0 rfl ?_
  replace hK := mm_bd hK; obtain ⟨v1, e1, hK⟩ := hK
  refine mm_geti C (pc := 1) (k := 5) inGX6 rfl (by decide) wd_300 dX6_steadyWays_1 e1 ?_
  cases hK
  exact mm_iret C (pc := 4) rfl dX6_steadyWays_4 rfl rfl
theorem wd_1100 : Cond.code yX6_survey cX6_survey 2 none ∈ lw_good := mm_wd 1100 (by decide +kernel) (by decide +kernel)
theorem tT_X6_survey : mm_T yX6_survey cX6_survey 2 none 1 := ⟨wd_1100, wd_147, by decide +kernel, by decide +kernel, by decide +kernel, by decide +kernel⟩
theorem wd_1097 : Cond.methodLink RX11 339 yX6_survey ∈ lw_good := mm_wd 1097 (by decide +kernel) (by decide +kernel)
theorem wd_1098 : Cond.instanceMethod yX6_survey ∈ lw_good := mm_wd 1098 (by decide +kernel) (by decide +kernel)
theorem wd_1099 : Cond.selects RX6 yX6_survey yX6_survey ∈ lw_good := mm_wd 1099 (by decide +kernel) (by decide +kernel)
theorem wd_1121 : Cond.code yX6_steadyWays cX6_steadyWays 1 (some .int) ∈ lw_good := mm_wd 1121 (by decide +kernel) (by decide +kernel)
theorem tT_X6_steadyWays : mm_T yX6_steadyWays cX6_steadyWays 1 (some .int) 0 := ⟨wd_1121, wd_147, by decide +kernel, by decide +kernel, by decide +kernel, by decide +kernel⟩
theorem wd_1118 : Cond.methodLink RX11 342 yX6_steadyWays ∈ lw_good := mm_wd 1118 (by decide +kernel) (by decide +kernel)
theorem wd_1119 : Cond.instanceMethod yX6_steadyWays ∈ lw_good := mm_wd 1119 (by decide +kernel) (by decide +kernel)
theorem wd_1120 : Cond.selects RX6 yX6_steadyWays yX6_steadyWays ∈ lw_good := mm_wd 1120 (by decide +kernel) (by decide +kernel)
def F_X11_stable (a0 : Option Nat) (h : MH) : Option (Int32 × MH) := (gR h a0 11 13).bind fun v1 => (gR h a0 11 5).bind fun v5 => (gR h v5 0 2).bind fun v8 => (cV h v1 6 (F_X6_survey v1 v8 h)).bind fun h11 => (gR h11 a0 11 13).bind fun v15 => mm_b2 (cV h11 v15 6 (F_X6_steadyWays v15 h11)) fun v18 h18 => some (v18, h18)
set_option maxRecDepth 20000 in
set_option maxHeartbeats 4000000 in
theorem S_X11_stable {d : Nat} (hd : 71 ≤ d) {a0 : Option Nat} {h : MH} {r : Int32} {hz : MH} (hK : F_X11_stable a0 h = some (r, hz)) : mm_M yX11_stable cX11_stable 1 (some .int) d [va_rf a0] h (.inr (some (.int r))) hz := by
  refine mm_ofV (by decide +kernel) (by simp [lg_sl, mm_crf, mm_cti, mm_ctl]) (fun V C => ?_)
  rw [show lv_args 0 [va_rf a0] = [(0, va_rf a0)] by simp [lv_args, mm_crf, mm_cti, mm_ctl]]
  unfold F_X11_stable at hK
  refine mm_aload_n C (pc := 0) 0 dX11_stable_0 rfl ?_
  replace hK := mm_bd hK; obtain ⟨v1, e1, hK⟩ := hK
  refine mm_getr C (pc := 1) (k := 13) inGX11 rfl (by decide) wd_858 dX11_stable_1 e1 ?_
  refine mm_aload_n C (pc := 4) 0 dX11_stable_4 rfl ?_
  replace hK := mm_bd hK; obtain ⟨v5, e5, hK⟩ := hK
  refine mm_getr C (pc := 5) (k := 5) inGX11 rfl (by decide) wd_850 dX11_stable_5 e5 ?_
  replace hK := mm_bd hK; obtain ⟨v8, e8, hK⟩ := hK
  refine mm_getr C (pc := 8) (k := 2) inGX0 rfl (by decide) wd_819 dX11_stable_8 e8 ?_
  replace hK := mm_bd hK; obtain ⟨h11, e11, hK⟩ := hK
  obtain ⟨o11, e11⟩ := cV_some e11
  refine mm_callV C (pc := 11) (d1 := 70) (As := [va_rf v8]) (st := []) (vk := none) ((S_X6_survey (by omega)) e11) tT_X6_survey o11 (Or.inr ⟨_, rfl, rfl⟩) wd_1097 wd_1098 wd_1099 (by omega) (by decide) rfl (by simp [mm_crf, mm_cti, mm_ctl]) rfl dX11_stable_11 ?_
  show V _ _ [] _
  refine mm_aload_n C (pc := 14) 0 dX11_stable_14 rfl ?_
  replace hK := mm_bd hK; obtain ⟨v15, e15, hK⟩ := hK
  refine mm_getr C (pc := 15) (k := 13) inGX11 rfl (by decide) wd_858 dX11_stable_15 e15 ?_
  replace hK := mm_b2s hK; obtain ⟨v18, h18, e18, hK⟩ := hK
  obtain ⟨o18, e18⟩ := cV_some e18
  refine mm_callV C (pc := 18) (d1 := 1) (As := []) (st := []) (vk := (some (.int v18))) ((S_X6_steadyWays (by omega)) e18) tT_X6_steadyWays o18 (Or.inr ⟨_, rfl, rfl⟩) wd_1118 wd_1119 wd_1120 (by omega) (by decide) rfl (by simp [mm_crf, mm_cti, mm_ctl]) rfl dX11_stable_18 ?_
  show V _ _ (.int v18 :: _) _
  cases hK
  exact mm_iret C (pc := 21) rfl dX11_stable_21 rfl rfl
def F_X6_steadyPartner_20 (s0 : Int32) (h : MH) : Option (Int32 × MH) := some (s0, h)
set_option maxRecDepth 20000 in
set_option maxHeartbeats 4000000 in
theorem w_X6_steadyPartner_20 {d : Nat} {V : Nat → List (Nat × Value) → List Value → MH → Prop} {r : Int32} {hz : MH} (hd : 1 ≤ d) (C : mm_C d yX6_steadyPartner cX6_steadyPartner 2 (some .int) (.inr (some (.int r))) hz V) (s0 : Int32) (h : MH) (hK : F_X6_steadyPartner_20 s0 h = some (r, hz)) : V 20 [] [.int s0] h := by
  unfold F_X6_steadyPartner_20 at hK
  cases hK
  exact mm_iret C (pc := 20) rfl dX6_steadyPartner_20 rfl rfl
def F_X6_steadyPartner_19 (h : MH) : Option (Int32 × MH) := F_X6_steadyPartner_20 ((-1) : Int32) h
set_option maxRecDepth 20000 in
set_option maxHeartbeats 4000000 in
theorem w_X6_steadyPartner_19 {d : Nat} {V : Nat → List (Nat × Value) → List Value → MH → Prop} {r : Int32} {hz : MH} (hd : 1 ≤ d) (C : mm_C d yX6_steadyPartner cX6_steadyPartner 2 (some .int) (.inr (some (.int r))) hz V) (h : MH) (hK : F_X6_steadyPartner_19  h = some (r, hz)) : V 19 [] [] h := by
  unfold F_X6_steadyPartner_19 at hK
  refine mm_iconst C (pc := 19) (v := ((-1) : Int32)) dX6_steadyPartner_19 (by decide) ?_
  exact w_X6_steadyPartner_20 hd C _ _ hK
def F_X6_steadyPartner (a0 : Option Nat) (a1 : Int32) (h : MH) : Option (Int32 × MH) := if a1 < 0 then (F_X6_steadyPartner_19 h) else (if (8 : Int32) ≤ a1 then (F_X6_steadyPartner_19 h) else ((gR h a0 6 1).bind fun v11 => (aI h v11 0 a1).bind fun v15 => F_X6_steadyPartner_20 v15 h))
set_option maxRecDepth 20000 in
set_option maxHeartbeats 4000000 in
theorem S_X6_steadyPartner {d : Nat} (hd : 1 ≤ d) {a0 : Option Nat} {a1 : Int32} {h : MH} {r : Int32} {hz : MH} (hK : F_X6_steadyPartner a0 a1 h = some (r, hz)) : mm_M yX6_steadyPartner cX6_steadyPartner 2 (some .int) d [va_rf a0, .int a1] h (.inr (some (.int r))) hz := by
  refine mm_ofV (by decide +kernel) (by simp [lg_sl, mm_crf, mm_cti, mm_ctl]) (fun V C => ?_)
  rw [show lv_args 0 [va_rf a0, .int a1] = [(0, va_rf a0), (1, .int a1)] by simp [lv_args, mm_crf, mm_cti, mm_ctl]]
  unfold F_X6_steadyPartner at hK
  refine mm_iload_n C (pc := 0) 1 dX6_steadyPartner_0 rfl ?_
  refine mm_if_lt C (pc := 1) (tgt := 19) dX6_steadyPartner_1 (by decide) (fun hc => ?_) (fun hc => ?_)
  · replace hK := mm_ip hc hK
    refine mm_sub C [] rfl ?_
    exact w_X6_steadyPartner_19 hd C _ hK
  · replace hK := mm_in hc hK
    refine mm_iload_n C (pc := 4) 1 dX6_steadyPartner_4 rfl ?_
    refine mm_bipush C (pc := 5) (v := (8 : Int32)) dX6_steadyPartner_5 (by decide) ?_
    refine mm_icmp_ge C (pc := 7) (tgt := 19) dX6_steadyPartner_7 (by decide) (fun hc => ?_) (fun hc => ?_)
    · replace hK := mm_ip hc hK
      refine mm_sub C [] rfl ?_
      exact w_X6_steadyPartner_19 hd C _ hK
    · replace hK := mm_in hc hK
      refine mm_aload_n C (pc := 10) 0 dX6_steadyPartner_10 rfl ?_
      replace hK := mm_bd hK; obtain ⟨v11, e11, hK⟩ := hK
      refine mm_getr C (pc := 11) (k := 1) inGX6 rfl (by decide) wd_296 dX6_steadyPartner_11 e11 ?_
      refine mm_iload_n C (pc := 14) 1 dX6_steadyPartner_14 rfl ?_
      replace hK := mm_bd hK; obtain ⟨v15, e15, hK⟩ := hK
      refine mm_iald C (pc := 15) dX6_steadyPartner_15 e15 ?_
      refine mm_goto C (pc := 16) (tgt := 20) dX6_steadyPartner_16 (by decide) ?_
      refine mm_sub C [] rfl ?_
      exact w_X6_steadyPartner_20 hd C _ _ hK
theorem wd_1838 : Cond.code yX6_steadyPartner cX6_steadyPartner 2 (some .int) ∈ lw_good := mm_wd 1838 (by decide +kernel) (by decide +kernel)
theorem tT_X6_steadyPartner : mm_T yX6_steadyPartner cX6_steadyPartner 2 (some .int) 1 := ⟨wd_1838, wd_147, by decide +kernel, by decide +kernel, by decide +kernel, by decide +kernel⟩
theorem wd_1835 : Cond.methodLink RX11 345 yX6_steadyPartner ∈ lw_good := mm_wd 1835 (by decide +kernel) (by decide +kernel)
theorem wd_1836 : Cond.instanceMethod yX6_steadyPartner ∈ lw_good := mm_wd 1836 (by decide +kernel) (by decide +kernel)
theorem wd_1837 : Cond.selects RX6 yX6_steadyPartner yX6_steadyPartner ∈ lw_good := mm_wd 1837 (by decide +kernel) (by decide +kernel)
def F_X11_partner (a0 : Option Nat) (a1 : Int32) (h : MH) : Option ((String ⊕ Int32) × MH) := mm_b3 (cV h a0 11 (F_X11_needLine a0 a1 h)) fun _ h2 => (gR h2 a0 11 13).bind fun v6 => (gR h2 a0 11 5).bind fun v10 => (gR h2 v10 0 2).bind fun v13 => (cV h2 v6 6 (F_X6_survey v6 v13 h2)).bind fun h16 => (gR h16 a0 11 13).bind fun v20 => mm_b2 (cV h16 v20 6 (F_X6_steadyPartner v20 a1 h16)) fun v24 h24 => some (.inr v24, h24)
set_option maxRecDepth 20000 in
set_option maxHeartbeats 4000000 in
theorem S_X11_partner {d : Nat} (hd : 71 ≤ d) {a0 : Option Nat} {a1 : Int32} {h : MH} {r : String ⊕ Int32} {hz : MH} (hK : F_X11_partner a0 a1 h = some (r, hz)) : mm_M yX11_partner cX11_partner 2 (some .int) d [va_rf a0, .int a1] h (mm_oi r) hz := by
  refine mm_ofV (by decide +kernel) (by simp [lg_sl, mm_crf, mm_cti, mm_ctl]) (fun V C => ?_)
  rw [show lv_args 0 [va_rf a0, .int a1] = [(0, va_rf a0), (1, .int a1)] by simp [lv_args, mm_crf, mm_cti, mm_ctl]]
  unfold F_X11_partner at hK
  refine mm_aload_n C (pc := 0) 0 dX11_partner_0 rfl ?_
  refine mm_iload_n C (pc := 1) 1 dX11_partner_1 rfl ?_
  replace hK := mm_b3s hK; rcases hK with ⟨E2, e2, rfl⟩ | ⟨v2, h2, e2, hK⟩
  · obtain ⟨o2, e2⟩ := cV_some e2
    exact mm_callVX C (pc := 2) (d1 := 6) (As := [.int a1]) (st := []) ((S_X11_needLine (by omega)) e2) tT_X11_needLine o2 (Or.inr ⟨_, rfl, rfl⟩) wd_1430 wd_1432 wd_38 (by omega) (by decide) rfl (by simp [mm_crf, mm_cti, mm_ctl]) rfl dX11_partner_2 rfl rfl
  obtain ⟨o2, e2⟩ := cV_some e2
  refine mm_callV C (pc := 2) (d1 := 6) (As := [.int a1]) (st := []) (vk := none) ((S_X11_needLine (by omega)) e2) tT_X11_needLine o2 (Or.inr ⟨_, rfl, rfl⟩) wd_1430 wd_1432 wd_38 (by omega) (by decide) rfl (by simp [mm_crf, mm_cti, mm_ctl]) rfl dX11_partner_2 ?_
  show V _ _ [] _
  refine mm_aload_n C (pc := 5) 0 dX11_partner_5 rfl ?_
  replace hK := mm_bd hK; obtain ⟨v6, e6, hK⟩ := hK
  refine mm_getr C (pc := 6) (k := 13) inGX11 rfl (by decide) wd_858 dX11_partner_6 e6 ?_
  refine mm_aload_n C (pc := 9) 0 dX11_partner_9 rfl ?_
  replace hK := mm_bd hK; obtain ⟨v10, e10, hK⟩ := hK
  refine mm_getr C (pc := 10) (k := 5) inGX11 rfl (by decide) wd_850 dX11_partner_10 e10 ?_
  replace hK := mm_bd hK; obtain ⟨v13, e13, hK⟩ := hK
  refine mm_getr C (pc := 13) (k := 2) inGX0 rfl (by decide) wd_819 dX11_partner_13 e13 ?_
  replace hK := mm_bd hK; obtain ⟨h16, e16, hK⟩ := hK
  obtain ⟨o16, e16⟩ := cV_some e16
  refine mm_callV C (pc := 16) (d1 := 70) (As := [va_rf v13]) (st := []) (vk := none) ((S_X6_survey (by omega)) e16) tT_X6_survey o16 (Or.inr ⟨_, rfl, rfl⟩) wd_1097 wd_1098 wd_1099 (by omega) (by decide) rfl (by simp [mm_crf, mm_cti, mm_ctl]) rfl dX11_partner_16 ?_
  show V _ _ [] _
  refine mm_aload_n C (pc := 19) 0 dX11_partner_19 rfl ?_
  replace hK := mm_bd hK; obtain ⟨v20, e20, hK⟩ := hK
  refine mm_getr C (pc := 20) (k := 13) inGX11 rfl (by decide) wd_858 dX11_partner_20 e20 ?_
  refine mm_iload_n C (pc := 23) 1 dX11_partner_23 rfl ?_
  replace hK := mm_b2s hK; obtain ⟨v24, h24, e24, hK⟩ := hK
  obtain ⟨o24, e24⟩ := cV_some e24
  refine mm_callV C (pc := 24) (d1 := 1) (As := [.int a1]) (st := []) (vk := (some (.int v24))) ((S_X6_steadyPartner (by omega)) e24) tT_X6_steadyPartner o24 (Or.inr ⟨_, rfl, rfl⟩) wd_1835 wd_1836 wd_1837 (by omega) (by decide) rfl (by simp [mm_crf, mm_cti, mm_ctl]) rfl dX11_partner_24 ?_
  show V _ _ (.int v24 :: _) _
  cases hK
  exact mm_iret C (pc := 27) rfl dX11_partner_27 rfl rfl
theorem wd_1127 : Cond.methodLink RX11 348 yX6_firstToPart ∈ lw_good := mm_wd 1127 (by decide +kernel) (by decide +kernel)
def F_X11_leave_2 : Nat → Option Nat → Int32 → MH → Option (Int32 × MH)
  | 0 => fun _ _ _ => none
  | n + 1 => fun l0 l1 h => if (8 : Int32) ≤ l1 then ((gR h l0 11 5).bind fun v29 => (gR h v29 0 2).bind fun v32 => (gR h l0 11 14).bind fun v36 => mm_b2 (F_X6_firstToPart v32 v36 h) fun v39 h39 => some (v39, h39)) else ((gR h l0 11 14).bind fun v9 => (gR h l0 11 5).bind fun v14 => mm_b2 (cV h v14 0 (F_X0_spouse v14 l1 h)) fun v18 h18 => (sI h18 v9 0 l1 v18).bind fun h21 => F_X11_leave_2 n l0 (l1 + (1 : Int32)) h21)
set_option maxRecDepth 20000 in
set_option maxHeartbeats 4000000 in
theorem w_X11_leave_2 {d : Nat} {V : Nat → List (Nat × Value) → List Value → MH → Prop} {r : Int32} {hz : MH} (hd : 4 ≤ d) (C : mm_C d yX11_leave cX11_leave 2 (some .int) (.inr (some (.int r))) hz V) : ∀ (n : Nat) (l0 : Option Nat) (l1 : Int32) (h : MH), F_X11_leave_2 n l0 l1 h = some (r, hz) → V 2 [(0, va_rf l0), (1, .int l1)] [] h := by
  intro n
  induction n with
  | zero => intro l0 l1 h hK; cases hK
  | succ n ih =>
    intro l0 l1 h hK
    replace hK : (if (8 : Int32) ≤ l1 then ((gR h l0 11 5).bind fun v29 => (gR h v29 0 2).bind fun v32 => (gR h l0 11 14).bind fun v36 => mm_b2 (F_X6_firstToPart v32 v36 h) fun v39 h39 => some (v39, h39)) else ((gR h l0 11 14).bind fun v9 => (gR h l0 11 5).bind fun v14 => mm_b2 (cV h v14 0 (F_X0_spouse v14 l1 h)) fun v18 h18 => (sI h18 v9 0 l1 v18).bind fun h21 => F_X11_leave_2 n l0 (l1 + (1 : Int32)) h21)) = some (r, hz) := hK
    refine mm_iload_n C (pc := 2) 1 dX11_leave_2 rfl ?_
    refine mm_bipush C (pc := 3) (v := (8 : Int32)) dX11_leave_3 (by decide) ?_
    refine mm_icmp_ge C (pc := 5) (tgt := 28) dX11_leave_5 (by decide) (fun hc => ?_) (fun hc => ?_)
    · replace hK := mm_ip hc hK
      refine mm_aload_n C (pc := 28) 0 dX11_leave_28 rfl ?_
      replace hK := mm_bd hK; obtain ⟨v29, e29, hK⟩ := hK
      refine mm_getr C (pc := 29) (k := 5) inGX11 rfl (by decide) wd_850 dX11_leave_29 e29 ?_
      replace hK := mm_bd hK; obtain ⟨v32, e32, hK⟩ := hK
      refine mm_getr C (pc := 32) (k := 2) inGX0 rfl (by decide) wd_819 dX11_leave_32 e32 ?_
      refine mm_aload_n C (pc := 35) 0 dX11_leave_35 rfl ?_
      replace hK := mm_bd hK; obtain ⟨v36, e36, hK⟩ := hK
      refine mm_getr C (pc := 36) (k := 14) inGX11 rfl (by decide) wd_859 dX11_leave_36 e36 ?_
      replace hK := mm_b2s hK; obtain ⟨v39, h39, e39, hK⟩ := hK
      refine mm_callS C (pc := 39) (d1 := 3) (As := [va_rf v32, va_rf v36]) (st := []) (vk := (some (.int v39))) ((S_X6_firstToPart (by omega)) e39) tT_X6_firstToPart wd_1127 wd_1111 (by omega) (by decide) rfl (by simp [mm_crf, mm_cti, mm_ctl]) rfl dX11_leave_39 ?_
      show V _ _ (.int v39 :: _) _
      cases hK
      exact mm_iret C (pc := 42) rfl dX11_leave_42 rfl rfl
    · replace hK := mm_in hc hK
      refine mm_aload_n C (pc := 8) 0 dX11_leave_8 rfl ?_
      replace hK := mm_bd hK; obtain ⟨v9, e9, hK⟩ := hK
      refine mm_getr C (pc := 9) (k := 14) inGX11 rfl (by decide) wd_859 dX11_leave_9 e9 ?_
      refine mm_iload_n C (pc := 12) 1 dX11_leave_12 rfl ?_
      refine mm_aload_n C (pc := 13) 0 dX11_leave_13 rfl ?_
      replace hK := mm_bd hK; obtain ⟨v14, e14, hK⟩ := hK
      refine mm_getr C (pc := 14) (k := 5) inGX11 rfl (by decide) wd_850 dX11_leave_14 e14 ?_
      refine mm_iload_n C (pc := 17) 1 dX11_leave_17 rfl ?_
      replace hK := mm_b2s hK; obtain ⟨v18, h18, e18, hK⟩ := hK
      obtain ⟨o18, e18⟩ := cV_some e18
      refine mm_callV C (pc := 18) (d1 := 2) (As := [.int l1]) (st := [.int l1, va_rf v9]) (vk := (some (.int v18))) ((S_X0_spouse (by omega)) e18) tT_X0_spouse o18 (Or.inr ⟨_, rfl, rfl⟩) wd_1126 wd_1056 wd_1057 (by omega) (by decide) rfl (by simp [mm_crf, mm_cti, mm_ctl]) rfl dX11_leave_18 ?_
      show V _ _ (.int v18 :: _) _
      replace hK := mm_bd hK; obtain ⟨h21, e21, hK⟩ := hK
      refine mm_iast C (pc := 21) dX11_leave_21 e21 ?_
      refine mm_iinc C (pc := 22) (v := (l1 + (1 : Int32))) (lv' := [(1, .int (l1 + (1 : Int32))), (0, va_rf l0)]) 1 dX11_leave_22 rfl rfl (by decide) (by simp [mm_crf]) ?_
      refine mm_goto C (pc := 25) (tgt := 2) dX11_leave_25 (by decide) ?_
      refine mm_sub C [1, 0] rfl ?_
      exact ih _ _ _ hK
def F_X11_leave (a0 : Option Nat) (h : MH) : Option (Int32 × MH) := F_X11_leave_2 mm_N a0 (0 : Int32) h
set_option maxRecDepth 20000 in
set_option maxHeartbeats 4000000 in
theorem S_X11_leave {d : Nat} (hd : 4 ≤ d) {a0 : Option Nat} {h : MH} {r : Int32} {hz : MH} (hK : F_X11_leave a0 h = some (r, hz)) : mm_M yX11_leave cX11_leave 2 (some .int) d [va_rf a0] h (.inr (some (.int r))) hz := by
  refine mm_ofV (by decide +kernel) (by simp [lg_sl, mm_crf, mm_cti, mm_ctl]) (fun V C => ?_)
  rw [show lv_args 0 [va_rf a0] = [(0, va_rf a0)] by simp [lv_args, mm_crf, mm_cti, mm_ctl]]
  unfold F_X11_leave at hK
  refine mm_iconst C (pc := 0) (v := (0 : Int32)) dX11_leave_0 (by decide) ?_
  refine mm_istore_n C (pc := 1) (i := 1) (lv' := [(1, .int (0 : Int32)), (0, va_rf a0)]) dX11_leave_1 rfl (by decide) (by simp [mm_crf]) ?_
  refine mm_sub C [1, 0] rfl ?_
  exact w_X11_leave_2 hd C _ _ _ _ hK
def F_X11_darlings_81 (k15 : Option Nat → Int32 → Int32 → Int32 → MH → Option (Int32 × MH)) (k30 : Option Nat → Int32 → Int32 → Int32 → Int32 → MH → Option (Int32 × MH)) (l1 : Option Nat) (l2 : Int32) (l3 : Int32) (l4 : Int32) (l5 : Int32) (h : MH) : Option (Int32 × MH) := k30 l1 l2 l3 l4 (l5 + (1 : Int32)) h
set_option maxRecDepth 20000 in
set_option maxHeartbeats 4000000 in
theorem w_X11_darlings_81 {d : Nat} {V : Nat → List (Nat × Value) → List Value → MH → Prop} {r : Int32} {hz : MH} {k15 : Option Nat → Int32 → Int32 → Int32 → MH → Option (Int32 × MH)} {k30 : Option Nat → Int32 → Int32 → Int32 → Int32 → MH → Option (Int32 × MH)} (hd : 2 ≤ d) (C : mm_C d yX11_darlings cX11_darlings 7 (some .int) (.inr (some (.int r))) hz V) (q15 : ∀ (x0 : Option Nat) (x1 : Int32) (x2 : Int32) (x3 : Int32) (h : MH), k15 x0 x1 x2 x3 h = some (r, hz) → V 15 [(1, va_rf x0), (2, .int x1), (3, .int x2), (4, .int x3)] [] h) (q30 : ∀ (x0 : Option Nat) (x1 : Int32) (x2 : Int32) (x3 : Int32) (x4 : Int32) (h : MH), k30 x0 x1 x2 x3 x4 h = some (r, hz) → V 30 [(1, va_rf x0), (2, .int x1), (3, .int x2), (4, .int x3), (5, .int x4)] [] h) (l1 : Option Nat) (l2 : Int32) (l3 : Int32) (l4 : Int32) (l5 : Int32) (h : MH) (hK : F_X11_darlings_81 k15 k30 l1 l2 l3 l4 l5 h = some (r, hz)) : V 81 [(1, va_rf l1), (2, .int l2), (3, .int l3), (4, .int l4), (5, .int l5)] [] h := by
  unfold F_X11_darlings_81 at hK
  refine mm_iinc C (pc := 81) (v := (l5 + (1 : Int32))) (lv' := [(5, .int (l5 + (1 : Int32))), (1, va_rf l1), (2, .int l2), (3, .int l3), (4, .int l4)]) 4 dX11_darlings_81 rfl rfl (by decide) rfl ?_
  refine mm_goto C (pc := 84) (tgt := 30) dX11_darlings_84 (by decide) ?_
  refine mm_sub C [1, 2, 3, 4, 0] rfl ?_
  exact q30 _ _ _ _ _ _ hK
def F_X11_darlings_69 (k15 : Option Nat → Int32 → Int32 → Int32 → MH → Option (Int32 × MH)) (k30 : Option Nat → Int32 → Int32 → Int32 → Int32 → MH → Option (Int32 × MH)) (l1 : Option Nat) (l4 : Int32) (l5 : Int32) (l6 : Int32) (h : MH) : Option (Int32 × MH) := F_X11_darlings_81 k15 k30 l1 (((10 : Int32) * l4) + l5) l6 l4 l5 h
set_option maxRecDepth 20000 in
set_option maxHeartbeats 4000000 in
theorem w_X11_darlings_69 {d : Nat} {V : Nat → List (Nat × Value) → List Value → MH → Prop} {r : Int32} {hz : MH} {k15 : Option Nat → Int32 → Int32 → Int32 → MH → Option (Int32 × MH)} {k30 : Option Nat → Int32 → Int32 → Int32 → Int32 → MH → Option (Int32 × MH)} (hd : 2 ≤ d) (C : mm_C d yX11_darlings cX11_darlings 7 (some .int) (.inr (some (.int r))) hz V) (q15 : ∀ (x0 : Option Nat) (x1 : Int32) (x2 : Int32) (x3 : Int32) (h : MH), k15 x0 x1 x2 x3 h = some (r, hz) → V 15 [(1, va_rf x0), (2, .int x1), (3, .int x2), (4, .int x3)] [] h) (q30 : ∀ (x0 : Option Nat) (x1 : Int32) (x2 : Int32) (x3 : Int32) (x4 : Int32) (h : MH), k30 x0 x1 x2 x3 x4 h = some (r, hz) → V 30 [(1, va_rf x0), (2, .int x1), (3, .int x2), (4, .int x3), (5, .int x4)] [] h) (l1 : Option Nat) (l4 : Int32) (l5 : Int32) (l6 : Int32) (h : MH) (hK : F_X11_darlings_69 k15 k30 l1 l4 l5 l6 h = some (r, hz)) : V 69 [(1, va_rf l1), (4, .int l4), (5, .int l5), (6, .int l6)] [] h := by
  unfold F_X11_darlings_69 at hK
  refine mm_bipush C (pc := 69) (v := (10 : Int32)) dX11_darlings_69 (by decide) ?_
  refine mm_iload C (pc := 71) 1 dX11_darlings_71 rfl ?_
  refine mm_imul C (pc := 73) dX11_darlings_73 ?_
  refine mm_iload C (pc := 74) 2 dX11_darlings_74 rfl ?_
  refine mm_iadd C (pc := 76) dX11_darlings_76 ?_
  refine mm_istore_n C (pc := 77) (i := 2) (lv' := [(2, .int (((10 : Int32) * l4) + l5)), (1, va_rf l1), (4, .int l4), (5, .int l5), (6, .int l6)]) dX11_darlings_77 rfl (by decide) (by simp [mm_crf]) ?_
  refine mm_iload C (pc := 78) 4 dX11_darlings_78 rfl ?_
  refine mm_istore_n C (pc := 80) (i := 3) (lv' := [(3, .int l6), (2, .int (((10 : Int32) * l4) + l5)), (1, va_rf l1), (4, .int l4), (5, .int l5), (6, .int l6)]) dX11_darlings_80 rfl (by decide) rfl ?_
  refine mm_sub C [2, 1, 0, 3, 4] rfl ?_
  exact w_X11_darlings_81 hd C (fun z0 z1 z2 z3 z4 hK => q15 z0 z1 z2 z3 z4 hK) (fun z0 z1 z2 z3 z4 z5 hK => q30 z0 z1 z2 z3 z4 z5 hK) _ _ _ _ _ _ hK
def F_X11_darlings_30 (k15 : Option Nat → Int32 → Int32 → Int32 → MH → Option (Int32 × MH)) : Nat → Option Nat → Int32 → Int32 → Int32 → Int32 → MH → Option (Int32 × MH)
  | 0 => fun _ _ _ _ _ _ => none
  | n + 1 => fun l1 l2 l3 l4 l5 h => (gI h l1 8 0).bind fun v33 => if v33 ≤ l5 then (k15 l1 l2 l3 (l4 + (1 : Int32)) h) else (mm_b2 (cV h l1 8 (F_X8_liking l1 l4 l5 h)) fun v44 h44 => mm_b2 (cV h44 l1 8 (F_X8_liking l1 l5 l4 h44)) fun v52 h52 => if l2 = ((-1) : Int32) then (F_X11_darlings_69 k15 (F_X11_darlings_30 k15 n) l1 l4 l5 (v44 + v52) h52) else (if (v44 + v52) ≤ l3 then (F_X11_darlings_81 k15 (F_X11_darlings_30 k15 n) l1 l2 l3 l4 l5 h52) else (F_X11_darlings_69 k15 (F_X11_darlings_30 k15 n) l1 l4 l5 (v44 + v52) h52)))
set_option maxRecDepth 20000 in
set_option maxHeartbeats 4000000 in
theorem w_X11_darlings_30 {d : Nat} {V : Nat → List (Nat × Value) → List Value → MH → Prop} {r : Int32} {hz : MH} {k15 : Option Nat → Int32 → Int32 → Int32 → MH → Option (Int32 × MH)} (hd : 2 ≤ d) (C : mm_C d yX11_darlings cX11_darlings 7 (some .int) (.inr (some (.int r))) hz V) (q15 : ∀ (x0 : Option Nat) (x1 : Int32) (x2 : Int32) (x3 : Int32) (h : MH), k15 x0 x1 x2 x3 h = some (r, hz) → V 15 [(1, va_rf x0), (2, .int x1), (3, .int x2), (4, .int x3)] [] h) : ∀ (n : Nat) (l1 : Option Nat) (l2 : Int32) (l3 : Int32) (l4 : Int32) (l5 : Int32) (h : MH), F_X11_darlings_30 k15 n l1 l2 l3 l4 l5 h = some (r, hz) → V 30 [(1, va_rf l1), (2, .int l2), (3, .int l3), (4, .int l4), (5, .int l5)] [] h := by
  intro n
  induction n with
  | zero => intro l1 l2 l3 l4 l5 h hK; cases hK
  | succ n ih =>
    intro l1 l2 l3 l4 l5 h hK
    replace hK : ((gI h l1 8 0).bind fun v33 => if v33 ≤ l5 then (k15 l1 l2 l3 (l4 + (1 : Int32)) h) else (mm_b2 (cV h l1 8 (F_X8_liking l1 l4 l5 h)) fun v44 h44 => mm_b2 (cV h44 l1 8 (F_X8_liking l1 l5 l4 h44)) fun v52 h52 => if l2 = ((-1) : Int32) then (F_X11_darlings_69 k15 (F_X11_darlings_30 k15 n) l1 l4 l5 (v44 + v52) h52) else (if (v44 + v52) ≤ l3 then (F_X11_darlings_81 k15 (F_X11_darlings_30 k15 n) l1 l2 l3 l4 l5 h52) else (F_X11_darlings_69 k15 (F_X11_darlings_30 k15 n) l1 l4 l5 (v44 + v52) h52)))) = some (r, hz) := hK
    refine mm_iload C (pc := 30) 4 dX11_darlings_30 rfl ?_
    refine mm_aload_n C (pc := 32) 0 dX11_darlings_32 rfl ?_
    replace hK := mm_bd hK; obtain ⟨v33, e33, hK⟩ := hK
    refine mm_geti C (pc := 33) (k := 0) inGX8 rfl (by decide) wd_776 dX11_darlings_33 e33 ?_
    refine mm_icmp_ge C (pc := 36) (tgt := 87) dX11_darlings_36 (by decide) (fun hc => ?_) (fun hc => ?_)
    · replace hK := mm_ip hc hK
      refine mm_iinc C (pc := 87) (v := (l4 + (1 : Int32))) (lv' := [(4, .int (l4 + (1 : Int32))), (1, va_rf l1), (2, .int l2), (3, .int l3), (5, .int l5)]) 3 dX11_darlings_87 rfl rfl (by decide) rfl ?_
      refine mm_goto C (pc := 90) (tgt := 15) dX11_darlings_90 (by decide) ?_
      refine mm_sub C [1, 2, 3, 0] rfl ?_
      exact q15 _ _ _ _ _ hK
    · replace hK := mm_in hc hK
      refine mm_aload_n C (pc := 39) 0 dX11_darlings_39 rfl ?_
      refine mm_iload C (pc := 40) 3 dX11_darlings_40 rfl ?_
      refine mm_iload C (pc := 42) 4 dX11_darlings_42 rfl ?_
      replace hK := mm_b2s hK; obtain ⟨v44, h44, e44, hK⟩ := hK
      obtain ⟨o44, e44⟩ := cV_some e44
      refine mm_callV C (pc := 44) (d1 := 1) (As := [.int l4, .int l5]) (st := []) (vk := (some (.int v44))) ((S_X8_liking (by omega)) e44) tT_X8_liking o44 (Or.inr ⟨_, rfl, rfl⟩) wd_1132 wd_1064 wd_1065 (by omega) (by decide) rfl (by simp [mm_crf, mm_cti, mm_ctl]) rfl dX11_darlings_44 ?_
      show V _ _ (.int v44 :: _) _
      refine mm_aload_n C (pc := 47) 0 dX11_darlings_47 rfl ?_
      refine mm_iload C (pc := 48) 4 dX11_darlings_48 rfl ?_
      refine mm_iload C (pc := 50) 3 dX11_darlings_50 rfl ?_
      replace hK := mm_b2s hK; obtain ⟨v52, h52, e52, hK⟩ := hK
      obtain ⟨o52, e52⟩ := cV_some e52
      refine mm_callV C (pc := 52) (d1 := 1) (As := [.int l5, .int l4]) (st := [.int v44]) (vk := (some (.int v52))) ((S_X8_liking (by omega)) e52) tT_X8_liking o52 (Or.inr ⟨_, rfl, rfl⟩) wd_1132 wd_1064 wd_1065 (by omega) (by decide) rfl (by simp [mm_crf, mm_cti, mm_ctl]) rfl dX11_darlings_52 ?_
      show V _ _ (.int v52 :: _) _
      refine mm_iadd C (pc := 55) dX11_darlings_55 ?_
      refine mm_istore C (pc := 56) (i := 6) (lv' := [(6, .int (v44 + v52)), (1, va_rf l1), (2, .int l2), (3, .int l3), (4, .int l4), (5, .int l5)]) dX11_darlings_56 (by decide) rfl ?_
      refine mm_iload_n C (pc := 58) 2 dX11_darlings_58 rfl ?_
      refine mm_iconst C (pc := 59) (v := ((-1) : Int32)) dX11_darlings_59 (by decide) ?_
      refine mm_icmp_eq C (pc := 60) (tgt := 69) dX11_darlings_60 (by decide) (fun hc => ?_) (fun hc => ?_)
      · replace hK := mm_ip hc hK
        refine mm_sub C [1, 4, 5, 0] rfl ?_
        exact w_X11_darlings_69 hd C (fun z0 z1 z2 z3 z4 hK => q15 z0 z1 z2 z3 z4 hK) (fun z0 z1 z2 z3 z4 z5 hK => ih z0 z1 z2 z3 z4 z5 hK) _ _ _ _ _ hK
      · replace hK := mm_in hc hK
        refine mm_iload C (pc := 63) 0 dX11_darlings_63 rfl ?_
        refine mm_iload_n C (pc := 65) 3 dX11_darlings_65 rfl ?_
        refine mm_icmp_le C (pc := 66) (tgt := 81) dX11_darlings_66 (by decide) (fun hc => ?_) (fun hc => ?_)
        · replace hK := mm_ip hc hK
          refine mm_sub C [1, 2, 3, 4, 5] rfl ?_
          exact w_X11_darlings_81 hd C (fun z0 z1 z2 z3 z4 hK => q15 z0 z1 z2 z3 z4 hK) (fun z0 z1 z2 z3 z4 z5 hK => ih z0 z1 z2 z3 z4 z5 hK) _ _ _ _ _ _ hK
        · replace hK := mm_in hc hK
          refine mm_sub C [1, 4, 5, 0] rfl ?_
          exact w_X11_darlings_69 hd C (fun z0 z1 z2 z3 z4 hK => q15 z0 z1 z2 z3 z4 hK) (fun z0 z1 z2 z3 z4 z5 hK => ih z0 z1 z2 z3 z4 z5 hK) _ _ _ _ _ hK
def F_X11_darlings_15 : Nat → Option Nat → Int32 → Int32 → Int32 → MH → Option (Int32 × MH)
  | 0 => fun _ _ _ _ _ => none
  | n + 1 => fun l1 l2 l3 l4 h => (gI h l1 8 0).bind fun v18 => if v18 ≤ l4 then (some (l2, h)) else (F_X11_darlings_30 (F_X11_darlings_15 n) mm_N l1 l2 l3 l4 (l4 + (1 : Int32)) h)
set_option maxRecDepth 20000 in
set_option maxHeartbeats 4000000 in
theorem w_X11_darlings_15 {d : Nat} {V : Nat → List (Nat × Value) → List Value → MH → Prop} {r : Int32} {hz : MH} (hd : 2 ≤ d) (C : mm_C d yX11_darlings cX11_darlings 7 (some .int) (.inr (some (.int r))) hz V) : ∀ (n : Nat) (l1 : Option Nat) (l2 : Int32) (l3 : Int32) (l4 : Int32) (h : MH), F_X11_darlings_15 n l1 l2 l3 l4 h = some (r, hz) → V 15 [(1, va_rf l1), (2, .int l2), (3, .int l3), (4, .int l4)] [] h := by
  intro n
  induction n with
  | zero => intro l1 l2 l3 l4 h hK; cases hK
  | succ n ih =>
    intro l1 l2 l3 l4 h hK
    replace hK : ((gI h l1 8 0).bind fun v18 => if v18 ≤ l4 then (some (l2, h)) else (F_X11_darlings_30 (F_X11_darlings_15 n) mm_N l1 l2 l3 l4 (l4 + (1 : Int32)) h)) = some (r, hz) := hK
    refine mm_iload C (pc := 15) 3 dX11_darlings_15 rfl ?_
    refine mm_aload_n C (pc := 17) 0 dX11_darlings_17 rfl ?_
    replace hK := mm_bd hK; obtain ⟨v18, e18, hK⟩ := hK
    refine mm_geti C (pc := 18) (k := 0) inGX8 rfl (by decide) wd_776 dX11_darlings_18 e18 ?_
    refine mm_icmp_ge C (pc := 21) (tgt := 93) dX11_darlings_21 (by decide) (fun hc => ?_) (fun hc => ?_)
    · replace hK := mm_ip hc hK
      refine mm_iload_n C (pc := 93) 1 dX11_darlings_93 rfl ?_
      cases hK
      exact mm_iret C (pc := 94) rfl dX11_darlings_94 rfl rfl
    · replace hK := mm_in hc hK
      refine mm_iload C (pc := 24) 3 dX11_darlings_24 rfl ?_
      refine mm_iconst C (pc := 26) (v := (1 : Int32)) dX11_darlings_26 (by decide) ?_
      refine mm_iadd C (pc := 27) dX11_darlings_27 ?_
      refine mm_istore C (pc := 28) (i := 5) (lv' := [(5, .int (l4 + (1 : Int32))), (1, va_rf l1), (2, .int l2), (3, .int l3), (4, .int l4)]) dX11_darlings_28 (by decide) rfl ?_
      refine mm_sub C [1, 2, 3, 4, 0] rfl ?_
      exact w_X11_darlings_30 hd C (fun z0 z1 z2 z3 z4 hK => ih z0 z1 z2 z3 z4 hK) _ _ _ _ _ _ _ hK
def F_X11_darlings (a0 : Option Nat) (h : MH) : Option (Int32 × MH) := (gR h a0 11 5).bind fun v1 => (gR h v1 0 2).bind fun v4 => F_X11_darlings_15 mm_N v4 ((-1) : Int32) (0 : Int32) (0 : Int32) h
set_option maxRecDepth 20000 in
set_option maxHeartbeats 4000000 in
theorem S_X11_darlings {d : Nat} (hd : 2 ≤ d) {a0 : Option Nat} {h : MH} {r : Int32} {hz : MH} (hK : F_X11_darlings a0 h = some (r, hz)) : mm_M yX11_darlings cX11_darlings 7 (some .int) d [va_rf a0] h (.inr (some (.int r))) hz := by
  refine mm_ofV (by decide +kernel) (by simp [lg_sl, mm_crf, mm_cti, mm_ctl]) (fun V C => ?_)
  rw [show lv_args 0 [va_rf a0] = [(0, va_rf a0)] by simp [lv_args, mm_crf, mm_cti, mm_ctl]]
  unfold F_X11_darlings at hK
  refine mm_aload_n C (pc := 0) 0 dX11_darlings_0 rfl ?_
  replace hK := mm_bd hK; obtain ⟨v1, e1, hK⟩ := hK
  refine mm_getr C (pc := 1) (k := 5) inGX11 rfl (by decide) wd_850 dX11_darlings_1 e1 ?_
  replace hK := mm_bd hK; obtain ⟨v4, e4, hK⟩ := hK
  refine mm_getr C (pc := 4) (k := 2) inGX0 rfl (by decide) wd_819 dX11_darlings_4 e4 ?_
  refine mm_astore_n C (pc := 7) (i := 1) (lv' := [(1, va_rf v4), (0, va_rf a0)]) dX11_darlings_7 rfl (by decide) (by simp [mm_crf]) ?_
  refine mm_iconst C (pc := 8) (v := ((-1) : Int32)) dX11_darlings_8 (by decide) ?_
  refine mm_istore_n C (pc := 9) (i := 2) (lv' := [(2, .int ((-1) : Int32)), (1, va_rf v4), (0, va_rf a0)]) dX11_darlings_9 rfl (by decide) (by simp [mm_crf]) ?_
  refine mm_iconst C (pc := 10) (v := (0 : Int32)) dX11_darlings_10 (by decide) ?_
  refine mm_istore_n C (pc := 11) (i := 3) (lv' := [(3, .int (0 : Int32)), (2, .int ((-1) : Int32)), (1, va_rf v4), (0, va_rf a0)]) dX11_darlings_11 rfl (by decide) rfl ?_
  refine mm_iconst C (pc := 12) (v := (0 : Int32)) dX11_darlings_12 (by decide) ?_
  refine mm_istore C (pc := 13) (i := 4) (lv' := [(4, .int (0 : Int32)), (3, .int (0 : Int32)), (2, .int ((-1) : Int32)), (1, va_rf v4), (0, va_rf a0)]) dX11_darlings_13 (by decide) rfl ?_
  refine mm_sub C [3, 2, 1, 0] rfl ?_
  exact w_X11_darlings_15 hd C _ _ _ _ _ _ hK
def F_X6_happySum (a0 : Option Nat) (h : MH) : Option (Int32 × MH) := (gI h a0 6 7).bind fun v1 => some (v1, h)
set_option maxRecDepth 20000 in
set_option maxHeartbeats 4000000 in
theorem S_X6_happySum {d : Nat} (hd : 1 ≤ d) {a0 : Option Nat} {h : MH} {r : Int32} {hz : MH} (hK : F_X6_happySum a0 h = some (r, hz)) : mm_M yX6_happySum cX6_happySum 1 (some .int) d [va_rf a0] h (.inr (some (.int r))) hz := by
  refine mm_ofV (by decide +kernel) (by simp [lg_sl, mm_crf, mm_cti, mm_ctl]) (fun V C => ?_)
  rw [show lv_args 0 [va_rf a0] = [(0, va_rf a0)] by simp [lv_args, mm_crf, mm_cti, mm_ctl]]
  unfold F_X6_happySum at hK
  refine mm_aload_n C (pc := 0) 0 dX6_happySum_0 rfl ?_
  replace hK := mm_bd hK; obtain ⟨v1, e1, hK⟩ := hK
  refine mm_geti C (pc := 1) (k := 7) inGX6 rfl (by decide) wd_302 dX6_happySum_1 e1 ?_
  cases hK
  exact mm_iret C (pc := 4) rfl dX6_happySum_4 rfl rfl
def F_X6_happyPartner_20 (s0 : Int32) (h : MH) : Option (Int32 × MH) := some (s0, h)
set_option maxRecDepth 20000 in
set_option maxHeartbeats 4000000 in
theorem w_X6_happyPartner_20 {d : Nat} {V : Nat → List (Nat × Value) → List Value → MH → Prop} {r : Int32} {hz : MH} (hd : 1 ≤ d) (C : mm_C d yX6_happyPartner cX6_happyPartner 2 (some .int) (.inr (some (.int r))) hz V) (s0 : Int32) (h : MH) (hK : F_X6_happyPartner_20 s0 h = some (r, hz)) : V 20 [] [.int s0] h := by
  unfold F_X6_happyPartner_20 at hK
  cases hK
  exact mm_iret C (pc := 20) rfl dX6_happyPartner_20 rfl rfl
def F_X6_happyPartner_19 (h : MH) : Option (Int32 × MH) := F_X6_happyPartner_20 ((-1) : Int32) h
set_option maxRecDepth 20000 in
set_option maxHeartbeats 4000000 in
theorem w_X6_happyPartner_19 {d : Nat} {V : Nat → List (Nat × Value) → List Value → MH → Prop} {r : Int32} {hz : MH} (hd : 1 ≤ d) (C : mm_C d yX6_happyPartner cX6_happyPartner 2 (some .int) (.inr (some (.int r))) hz V) (h : MH) (hK : F_X6_happyPartner_19  h = some (r, hz)) : V 19 [] [] h := by
  unfold F_X6_happyPartner_19 at hK
  refine mm_iconst C (pc := 19) (v := ((-1) : Int32)) dX6_happyPartner_19 (by decide) ?_
  exact w_X6_happyPartner_20 hd C _ _ hK
def F_X6_happyPartner (a0 : Option Nat) (a1 : Int32) (h : MH) : Option (Int32 × MH) := if a1 < 0 then (F_X6_happyPartner_19 h) else (if (8 : Int32) ≤ a1 then (F_X6_happyPartner_19 h) else ((gR h a0 6 2).bind fun v11 => (aI h v11 0 a1).bind fun v15 => F_X6_happyPartner_20 v15 h))
set_option maxRecDepth 20000 in
set_option maxHeartbeats 4000000 in
theorem S_X6_happyPartner {d : Nat} (hd : 1 ≤ d) {a0 : Option Nat} {a1 : Int32} {h : MH} {r : Int32} {hz : MH} (hK : F_X6_happyPartner a0 a1 h = some (r, hz)) : mm_M yX6_happyPartner cX6_happyPartner 2 (some .int) d [va_rf a0, .int a1] h (.inr (some (.int r))) hz := by
  refine mm_ofV (by decide +kernel) (by simp [lg_sl, mm_crf, mm_cti, mm_ctl]) (fun V C => ?_)
  rw [show lv_args 0 [va_rf a0, .int a1] = [(0, va_rf a0), (1, .int a1)] by simp [lv_args, mm_crf, mm_cti, mm_ctl]]
  unfold F_X6_happyPartner at hK
  refine mm_iload_n C (pc := 0) 1 dX6_happyPartner_0 rfl ?_
  refine mm_if_lt C (pc := 1) (tgt := 19) dX6_happyPartner_1 (by decide) (fun hc => ?_) (fun hc => ?_)
  · replace hK := mm_ip hc hK
    refine mm_sub C [] rfl ?_
    exact w_X6_happyPartner_19 hd C _ hK
  · replace hK := mm_in hc hK
    refine mm_iload_n C (pc := 4) 1 dX6_happyPartner_4 rfl ?_
    refine mm_bipush C (pc := 5) (v := (8 : Int32)) dX6_happyPartner_5 (by decide) ?_
    refine mm_icmp_ge C (pc := 7) (tgt := 19) dX6_happyPartner_7 (by decide) (fun hc => ?_) (fun hc => ?_)
    · replace hK := mm_ip hc hK
      refine mm_sub C [] rfl ?_
      exact w_X6_happyPartner_19 hd C _ hK
    · replace hK := mm_in hc hK
      refine mm_aload_n C (pc := 10) 0 dX6_happyPartner_10 rfl ?_
      replace hK := mm_bd hK; obtain ⟨v11, e11, hK⟩ := hK
      refine mm_getr C (pc := 11) (k := 2) inGX6 rfl (by decide) wd_297 dX6_happyPartner_11 e11 ?_
      refine mm_iload_n C (pc := 14) 1 dX6_happyPartner_14 rfl ?_
      replace hK := mm_bd hK; obtain ⟨v15, e15, hK⟩ := hK
      refine mm_iald C (pc := 15) dX6_happyPartner_15 e15 ?_
      refine mm_goto C (pc := 16) (tgt := 20) dX6_happyPartner_16 (by decide) ?_
      refine mm_sub C [] rfl ?_
      exact w_X6_happyPartner_20 hd C _ _ hK
theorem wd_1853 : Cond.code yX6_happyPartner cX6_happyPartner 2 (some .int) ∈ lw_good := mm_wd 1853 (by decide +kernel) (by decide +kernel)
theorem tT_X6_happyPartner : mm_T yX6_happyPartner cX6_happyPartner 2 (some .int) 1 := ⟨wd_1853, wd_147, by decide +kernel, by decide +kernel, by decide +kernel, by decide +kernel⟩
theorem wd_1850 : Cond.methodLink RX11 355 yX6_happyPartner ∈ lw_good := mm_wd 1850 (by decide +kernel) (by decide +kernel)
theorem wd_1851 : Cond.instanceMethod yX6_happyPartner ∈ lw_good := mm_wd 1851 (by decide +kernel) (by decide +kernel)
theorem wd_1852 : Cond.selects RX6 yX6_happyPartner yX6_happyPartner ∈ lw_good := mm_wd 1852 (by decide +kernel) (by decide +kernel)
theorem wd_1849 : Cond.code yX6_happySum cX6_happySum 1 (some .int) ∈ lw_good := mm_wd 1849 (by decide +kernel) (by decide +kernel)
theorem tT_X6_happySum : mm_T yX6_happySum cX6_happySum 1 (some .int) 0 := ⟨wd_1849, wd_147, by decide +kernel, by decide +kernel, by decide +kernel, by decide +kernel⟩
theorem wd_1846 : Cond.methodLink RX11 352 yX6_happySum ∈ lw_good := mm_wd 1846 (by decide +kernel) (by decide +kernel)
theorem wd_1847 : Cond.instanceMethod yX6_happySum ∈ lw_good := mm_wd 1847 (by decide +kernel) (by decide +kernel)
theorem wd_1848 : Cond.selects RX6 yX6_happySum yX6_happySum ∈ lw_good := mm_wd 1848 (by decide +kernel) (by decide +kernel)
def F_X11_happiest_51 (s0 : Int32) (h : MH) : Option ((String ⊕ Int32) × MH) := some (.inr s0, h)
set_option maxRecDepth 20000 in
set_option maxHeartbeats 4000000 in
theorem w_X11_happiest_51 {d : Nat} {V : Nat → List (Nat × Value) → List Value → MH → Prop} {r : String ⊕ Int32} {hz : MH} (hd : 71 ≤ d) (C : mm_C d yX11_happiest cX11_happiest 2 (some .int) (mm_oi r) hz V) (s0 : Int32) (h : MH) (hK : F_X11_happiest_51 s0 h = some (r, hz)) : V 51 [] [.int s0] h := by
  unfold F_X11_happiest_51 at hK
  cases hK
  exact mm_iret C (pc := 51) rfl dX11_happiest_51 rfl rfl
def F_X11_happiest_12 (l0 : Option Nat) (l1 : Int32) (h : MH) : Option ((String ⊕ Int32) × MH) := (gR h l0 11 13).bind fun v13 => (gR h l0 11 5).bind fun v17 => (gR h v17 0 2).bind fun v20 => (cV h v13 6 (F_X6_survey v13 v20 h)).bind fun h23 => if l1 = 0 then ((gR h23 l0 11 13).bind fun v31 => mm_b2 (cV h23 v31 6 (F_X6_happySum v31 h23)) fun v34 h34 => F_X11_happiest_51 v34 h34) else ((gR h23 l0 11 13).bind fun v41 => mm_b2 (cV h23 v41 6 (F_X6_happyPartner v41 (l1 - (10 : Int32)) h23)) fun v48 h48 => F_X11_happiest_51 v48 h48)
set_option maxRecDepth 20000 in
set_option maxHeartbeats 4000000 in
theorem w_X11_happiest_12 {d : Nat} {V : Nat → List (Nat × Value) → List Value → MH → Prop} {r : String ⊕ Int32} {hz : MH} (hd : 71 ≤ d) (C : mm_C d yX11_happiest cX11_happiest 2 (some .int) (mm_oi r) hz V) (l0 : Option Nat) (l1 : Int32) (h : MH) (hK : F_X11_happiest_12 l0 l1 h = some (r, hz)) : V 12 [(0, va_rf l0), (1, .int l1)] [] h := by
  unfold F_X11_happiest_12 at hK
  refine mm_aload_n C (pc := 12) 0 dX11_happiest_12 rfl ?_
  replace hK := mm_bd hK; obtain ⟨v13, e13, hK⟩ := hK
  refine mm_getr C (pc := 13) (k := 13) inGX11 rfl (by decide) wd_858 dX11_happiest_13 e13 ?_
  refine mm_aload_n C (pc := 16) 0 dX11_happiest_16 rfl ?_
  replace hK := mm_bd hK; obtain ⟨v17, e17, hK⟩ := hK
  refine mm_getr C (pc := 17) (k := 5) inGX11 rfl (by decide) wd_850 dX11_happiest_17 e17 ?_
  replace hK := mm_bd hK; obtain ⟨v20, e20, hK⟩ := hK
  refine mm_getr C (pc := 20) (k := 2) inGX0 rfl (by decide) wd_819 dX11_happiest_20 e20 ?_
  replace hK := mm_bd hK; obtain ⟨h23, e23, hK⟩ := hK
  obtain ⟨o23, e23⟩ := cV_some e23
  refine mm_callV C (pc := 23) (d1 := 70) (As := [va_rf v20]) (st := []) (vk := none) ((S_X6_survey (by omega)) e23) tT_X6_survey o23 (Or.inr ⟨_, rfl, rfl⟩) wd_1097 wd_1098 wd_1099 (by omega) (by decide) rfl (by simp [mm_crf, mm_cti, mm_ctl]) rfl dX11_happiest_23 ?_
  show V _ _ [] _
  refine mm_iload_n C (pc := 26) 1 dX11_happiest_26 rfl ?_
  refine mm_if_ne C (pc := 27) (tgt := 40) dX11_happiest_27 (by decide) (fun hc => ?_) (fun hc => ?_)
  · replace hK := mm_in hc hK
    refine mm_aload_n C (pc := 40) 0 dX11_happiest_40 rfl ?_
    replace hK := mm_bd hK; obtain ⟨v41, e41, hK⟩ := hK
    refine mm_getr C (pc := 41) (k := 13) inGX11 rfl (by decide) wd_858 dX11_happiest_41 e41 ?_
    refine mm_iload_n C (pc := 44) 1 dX11_happiest_44 rfl ?_
    refine mm_bipush C (pc := 45) (v := (10 : Int32)) dX11_happiest_45 (by decide) ?_
    refine mm_isub C (pc := 47) dX11_happiest_47 ?_
    replace hK := mm_b2s hK; obtain ⟨v48, h48, e48, hK⟩ := hK
    obtain ⟨o48, e48⟩ := cV_some e48
    refine mm_callV C (pc := 48) (d1 := 1) (As := [.int (l1 - (10 : Int32))]) (st := []) (vk := (some (.int v48))) ((S_X6_happyPartner (by omega)) e48) tT_X6_happyPartner o48 (Or.inr ⟨_, rfl, rfl⟩) wd_1850 wd_1851 wd_1852 (by omega) (by decide) rfl (by simp [mm_crf, mm_cti, mm_ctl]) rfl dX11_happiest_48 ?_
    show V _ _ (.int v48 :: _) _
    refine mm_sub C [] rfl ?_
    exact w_X11_happiest_51 hd C _ _ hK
  · replace hK := mm_ip hc hK
    refine mm_aload_n C (pc := 30) 0 dX11_happiest_30 rfl ?_
    replace hK := mm_bd hK; obtain ⟨v31, e31, hK⟩ := hK
    refine mm_getr C (pc := 31) (k := 13) inGX11 rfl (by decide) wd_858 dX11_happiest_31 e31 ?_
    replace hK := mm_b2s hK; obtain ⟨v34, h34, e34, hK⟩ := hK
    obtain ⟨o34, e34⟩ := cV_some e34
    refine mm_callV C (pc := 34) (d1 := 1) (As := []) (st := []) (vk := (some (.int v34))) ((S_X6_happySum (by omega)) e34) tT_X6_happySum o34 (Or.inr ⟨_, rfl, rfl⟩) wd_1846 wd_1847 wd_1848 (by omega) (by decide) rfl (by simp [mm_crf, mm_cti, mm_ctl]) rfl dX11_happiest_34 ?_
    show V _ _ (.int v34 :: _) _
    refine mm_goto C (pc := 37) (tgt := 51) dX11_happiest_37 (by decide) ?_
    refine mm_sub C [] rfl ?_
    exact w_X11_happiest_51 hd C _ _ hK
def F_X11_happiest (a0 : Option Nat) (a1 : Int32) (h : MH) : Option ((String ⊕ Int32) × MH) := if a1 = 0 then (F_X11_happiest_12 a0 a1 h) else (mm_b3 (F_X11_needWithin a1 (10 : Int32) (17 : Int32) h) fun _ h9 => F_X11_happiest_12 a0 a1 h9)
set_option maxRecDepth 20000 in
set_option maxHeartbeats 4000000 in
theorem S_X11_happiest {d : Nat} (hd : 71 ≤ d) {a0 : Option Nat} {a1 : Int32} {h : MH} {r : String ⊕ Int32} {hz : MH} (hK : F_X11_happiest a0 a1 h = some (r, hz)) : mm_M yX11_happiest cX11_happiest 2 (some .int) d [va_rf a0, .int a1] h (mm_oi r) hz := by
  refine mm_ofV (by decide +kernel) (by simp [lg_sl, mm_crf, mm_cti, mm_ctl]) (fun V C => ?_)
  rw [show lv_args 0 [va_rf a0, .int a1] = [(0, va_rf a0), (1, .int a1)] by simp [lv_args, mm_crf, mm_cti, mm_ctl]]
  unfold F_X11_happiest at hK
  refine mm_iload_n C (pc := 0) 1 dX11_happiest_0 rfl ?_
  refine mm_if_eq C (pc := 1) (tgt := 12) dX11_happiest_1 (by decide) (fun hc => ?_) (fun hc => ?_)
  · replace hK := mm_ip hc hK
    exact w_X11_happiest_12 hd C _ _ _ hK
  · replace hK := mm_in hc hK
    refine mm_iload_n C (pc := 4) 1 dX11_happiest_4 rfl ?_
    refine mm_bipush C (pc := 5) (v := (10 : Int32)) dX11_happiest_5 (by decide) ?_
    refine mm_bipush C (pc := 7) (v := (17 : Int32)) dX11_happiest_7 (by decide) ?_
    replace hK := mm_b3s hK; rcases hK with ⟨E9, e9, rfl⟩ | ⟨v9, h9, e9, hK⟩
    · skip
      exact mm_callSX C (pc := 9) (d1 := 6) (As := [.int a1, .int (10 : Int32), .int (17 : Int32)]) (st := []) ((S_X11_needWithin (by omega)) e9) tT_X11_needWithin wd_1163 wd_1164 (by omega) (by decide) rfl (by simp [mm_crf, mm_cti, mm_ctl]) rfl dX11_happiest_9 rfl rfl
    refine mm_callS C (pc := 9) (d1 := 6) (As := [.int a1, .int (10 : Int32), .int (17 : Int32)]) (st := []) (vk := none) ((S_X11_needWithin (by omega)) e9) tT_X11_needWithin wd_1163 wd_1164 (by omega) (by decide) rfl (by simp [mm_crf, mm_cti, mm_ctl]) rfl dX11_happiest_9 ?_
    show V _ _ [] _
    exact w_X11_happiest_12 hd C _ _ _ hK
def F_X11_commonDivisor_45 (l4 : Int64) (h : MH) : Option (Int64 × MH) := some (l4, h)
set_option maxRecDepth 20000 in
set_option maxHeartbeats 4000000 in
theorem w_X11_commonDivisor_45 {d : Nat} {V : Nat → List (Nat × Value) → List Value → MH → Prop} {r : Int64} {hz : MH} (hd : 1 ≤ d) (C : mm_C d yX11_commonDivisor cX11_commonDivisor 11 (some .long) (.inr (some (.long r))) hz V) (l4 : Int64) (h : MH) (hK : F_X11_commonDivisor_45 l4 h = some (r, hz)) : V 45 [(4, .long l4)] [] h := by
  unfold F_X11_commonDivisor_45 at hK
  refine mm_lload C (pc := 45) 0 dX11_commonDivisor_45 rfl ?_
  cases hK
  exact mm_lret C (pc := 47) rfl dX11_commonDivisor_47 rfl rfl
def F_X11_commonDivisor_9 : Nat → Int64 → Int64 → Int32 → MH → Option (Int64 × MH)
  | 0 => fun _ _ _ _ => none
  | n + 1 => fun l4 l6 l8 h => if (200 : Int32) ≤ l8 then (F_X11_commonDivisor_45 l4 h) else (if (lg_cmp l6 (0 : Int64)) = 0 then (F_X11_commonDivisor_45 l4 h) else (if l6 = 0 then none else F_X11_commonDivisor_9 n l6 (l4 - l4 / l6 * l6) (l8 + (1 : Int32)) h))
set_option maxRecDepth 20000 in
set_option maxHeartbeats 4000000 in
theorem w_X11_commonDivisor_9 {d : Nat} {V : Nat → List (Nat × Value) → List Value → MH → Prop} {r : Int64} {hz : MH} (hd : 1 ≤ d) (C : mm_C d yX11_commonDivisor cX11_commonDivisor 11 (some .long) (.inr (some (.long r))) hz V) : ∀ (n : Nat) (l4 : Int64) (l6 : Int64) (l8 : Int32) (h : MH), F_X11_commonDivisor_9 n l4 l6 l8 h = some (r, hz) → V 9 [(4, .long l4), (6, .long l6), (8, .int l8)] [] h := by
  intro n
  induction n with
  | zero => intro l4 l6 l8 h hK; cases hK
  | succ n ih =>
    intro l4 l6 l8 h hK
    replace hK : (if (200 : Int32) ≤ l8 then (F_X11_commonDivisor_45 l4 h) else (if (lg_cmp l6 (0 : Int64)) = 0 then (F_X11_commonDivisor_45 l4 h) else (if l6 = 0 then none else F_X11_commonDivisor_9 n l6 (l4 - l4 / l6 * l6) (l8 + (1 : Int32)) h))) = some (r, hz) := hK
    refine mm_iload C (pc := 9) 2 dX11_commonDivisor_9 rfl ?_
    refine mm_sipush C (pc := 11) (v := (200 : Int32)) dX11_commonDivisor_11 (by decide) ?_
    refine mm_icmp_ge C (pc := 14) (tgt := 45) dX11_commonDivisor_14 (by decide) (fun hc => ?_) (fun hc => ?_)
    · replace hK := mm_ip hc hK
      refine mm_sub C [0] rfl ?_
      exact w_X11_commonDivisor_45 hd C _ _ hK
    · replace hK := mm_in hc hK
      refine mm_lload C (pc := 17) 1 dX11_commonDivisor_17 rfl ?_
      refine mm_lconst C (pc := 19) (v := (0 : Int64)) dX11_commonDivisor_19 (by decide) ?_
      refine mm_lcmp C (pc := 20) dX11_commonDivisor_20 ?_
      refine mm_if_eq C (pc := 21) (tgt := 45) dX11_commonDivisor_21 (by decide) (fun hc => ?_) (fun hc => ?_)
      · replace hK := mm_ip hc hK
        refine mm_sub C [0] rfl ?_
        exact w_X11_commonDivisor_45 hd C _ _ hK
      · replace hK := mm_in hc hK
        refine mm_lload C (pc := 24) 0 dX11_commonDivisor_24 rfl ?_
        refine mm_lload C (pc := 26) 1 dX11_commonDivisor_26 rfl ?_
        by_cases hz28 : l6 = 0
        · rw [if_pos hz28] at hK; cases hK
        replace hK := mm_in hz28 hK
        refine mm_lrem C (pc := 28) dX11_commonDivisor_28 hz28 ?_
        refine mm_lstore C (pc := 29) (i := 9) (lv' := [(9, .long (l4 - l4 / l6 * l6)), (4, .long l4), (6, .long l6), (8, .int l8)]) dX11_commonDivisor_29 (by decide) rfl ?_
        refine mm_lload C (pc := 31) 2 dX11_commonDivisor_31 rfl ?_
        refine mm_lstore C (pc := 33) (i := 4) (lv' := [(4, .long l6), (9, .long (l4 - l4 / l6 * l6)), (6, .long l6), (8, .int l8)]) dX11_commonDivisor_33 (by decide) rfl ?_
        refine mm_lload C (pc := 35) 1 dX11_commonDivisor_35 rfl ?_
        refine mm_lstore C (pc := 37) (i := 6) (lv' := [(6, .long (l4 - l4 / l6 * l6)), (4, .long l6), (9, .long (l4 - l4 / l6 * l6)), (8, .int l8)]) dX11_commonDivisor_37 (by decide) rfl ?_
        refine mm_iinc C (pc := 39) (v := (l8 + (1 : Int32))) (lv' := [(8, .int (l8 + (1 : Int32))), (6, .long (l4 - l4 / l6 * l6)), (4, .long l6), (9, .long (l4 - l4 / l6 * l6))]) 3 dX11_commonDivisor_39 rfl rfl (by decide) rfl ?_
        refine mm_goto C (pc := 42) (tgt := 9) dX11_commonDivisor_42 (by decide) ?_
        refine mm_sub C [2, 1, 0] rfl ?_
        exact ih _ _ _ _ hK
def F_X11_commonDivisor (a0 : Int64) (a1 : Int64) (h : MH) : Option (Int64 × MH) := F_X11_commonDivisor_9 mm_N a0 a1 (0 : Int32) h
set_option maxRecDepth 20000 in
set_option maxHeartbeats 4000000 in
theorem S_X11_commonDivisor {d : Nat} (hd : 1 ≤ d) {a0 : Int64} {a1 : Int64} {h : MH} {r : Int64} {hz : MH} (hK : F_X11_commonDivisor a0 a1 h = some (r, hz)) : mm_M yX11_commonDivisor cX11_commonDivisor 11 (some .long) d [.long a0, .long a1] h (.inr (some (.long r))) hz := by
  refine mm_ofV (by decide +kernel) (by simp [lg_sl, mm_crf, mm_cti, mm_ctl]) (fun V C => ?_)
  rw [show lv_args 0 [.long a0, .long a1] = [(0, .long a0), (2, .long a1)] by simp [lv_args, mm_crf, mm_cti, mm_ctl]]
  unfold F_X11_commonDivisor at hK
  refine mm_lload_n C (pc := 0) 0 dX11_commonDivisor_0 rfl ?_
  refine mm_lstore C (pc := 1) (i := 4) (lv' := [(4, .long a0), (0, .long a0), (2, .long a1)]) dX11_commonDivisor_1 (by decide) rfl ?_
  refine mm_lload_n C (pc := 3) 2 dX11_commonDivisor_3 rfl ?_
  refine mm_lstore C (pc := 4) (i := 6) (lv' := [(6, .long a1), (4, .long a0), (0, .long a0), (2, .long a1)]) dX11_commonDivisor_4 (by decide) rfl ?_
  refine mm_iconst C (pc := 6) (v := (0 : Int32)) dX11_commonDivisor_6 (by decide) ?_
  refine mm_istore C (pc := 7) (i := 8) (lv' := [(8, .int (0 : Int32)), (6, .long a1), (4, .long a0), (0, .long a0), (2, .long a1)]) dX11_commonDivisor_7 (by decide) rfl ?_
  refine mm_sub C [2, 1, 0] rfl ?_
  exact w_X11_commonDivisor_9 hd C _ _ _ _ _ hK
theorem wd_1866 : Cond.code yX11_commonDivisor cX11_commonDivisor 11 (some .long) ∈ lw_good := mm_wd 1866 (by decide +kernel) (by decide +kernel)
theorem tT_X11_commonDivisor : mm_T yX11_commonDivisor cX11_commonDivisor 11 (some .long) 2 := ⟨wd_1866, wd_142, by decide +kernel, by decide +kernel, by decide +kernel, by decide +kernel⟩
theorem wd_1864 : Cond.methodLink RX11 362 yX11_commonDivisor ∈ lw_good := mm_wd 1864 (by decide +kernel) (by decide +kernel)
theorem wd_1865 : Cond.static yX11_commonDivisor ∈ lw_good := mm_wd 1865 (by decide +kernel) (by decide +kernel)
def F_X11_lossPart_83 (s0 : Int64) (h : MH) : Option (Int64 × MH) := some (s0, h)
set_option maxRecDepth 20000 in
set_option maxHeartbeats 4000000 in
theorem w_X11_lossPart_83 {d : Nat} {V : Nat → List (Nat × Value) → List Value → MH → Prop} {r : Int64} {hz : MH} (hd : 2 ≤ d) (C : mm_C d yX11_lossPart cX11_lossPart 15 (some .long) (.inr (some (.long r))) hz V) (s0 : Int64) (h : MH) (hK : F_X11_lossPart_83 s0 h = some (r, hz)) : V 83 [] [.long s0] h := by
  unfold F_X11_lossPart_83 at hK
  cases hK
  exact mm_lret C (pc := 83) rfl dX11_lossPart_83 rfl rfl
def F_X11_lossPart_66 (k9 : Int32 → Int32 → Int32 → Int32 → Int64 → Int64 → Int32 → MH → Option (Int64 × MH)) (l0 : Int32) (l1 : Int32) (l2 : Int32) (l3 : Int32) (l4 : Int64) (l6 : Int64) (l8 : Int32) (h : MH) : Option (Int64 × MH) := k9 l0 l1 l2 l3 l4 l6 (l8 + (1 : Int32)) h
set_option maxRecDepth 20000 in
set_option maxHeartbeats 4000000 in
theorem w_X11_lossPart_66 {d : Nat} {V : Nat → List (Nat × Value) → List Value → MH → Prop} {r : Int64} {hz : MH} {k9 : Int32 → Int32 → Int32 → Int32 → Int64 → Int64 → Int32 → MH → Option (Int64 × MH)} (hd : 2 ≤ d) (C : mm_C d yX11_lossPart cX11_lossPart 15 (some .long) (.inr (some (.long r))) hz V) (q9 : ∀ (x0 : Int32) (x1 : Int32) (x2 : Int32) (x3 : Int32) (x4 : Int64) (x5 : Int64) (x6 : Int32) (h : MH), k9 x0 x1 x2 x3 x4 x5 x6 h = some (r, hz) → V 9 [(0, .int x0), (1, .int x1), (2, .int x2), (3, .int x3), (4, .long x4), (6, .long x5), (8, .int x6)] [] h) (l0 : Int32) (l1 : Int32) (l2 : Int32) (l3 : Int32) (l4 : Int64) (l6 : Int64) (l8 : Int32) (h : MH) (hK : F_X11_lossPart_66 k9 l0 l1 l2 l3 l4 l6 l8 h = some (r, hz)) : V 66 [(0, .int l0), (1, .int l1), (2, .int l2), (3, .int l3), (4, .long l4), (6, .long l6), (8, .int l8)] [] h := by
  unfold F_X11_lossPart_66 at hK
  refine mm_iinc C (pc := 66) (v := (l8 + (1 : Int32))) (lv' := [(8, .int (l8 + (1 : Int32))), (0, .int l0), (1, .int l1), (2, .int l2), (3, .int l3), (4, .long l4), (6, .long l6)]) 6 dX11_lossPart_66 rfl rfl (by decide) rfl ?_
  refine mm_goto C (pc := 69) (tgt := 9) dX11_lossPart_69 (by decide) ?_
  refine mm_sub C [1, 2, 3, 4, 5, 6, 0] rfl ?_
  exact q9 _ _ _ _ _ _ _ _ hK
def F_X11_lossPart_9 : Nat → Int32 → Int32 → Int32 → Int32 → Int64 → Int64 → Int32 → MH → Option (Int64 × MH)
  | 0 => fun _ _ _ _ _ _ _ _ => none
  | n + 1 => fun l0 l1 l2 l3 l4 l6 l8 h => if l0 < l8 then (if l3 = 0 then (F_X11_lossPart_83 l6 h) else (F_X11_lossPart_83 l4 h)) else (mm_b2 (F_X11_commonDivisor ((((l2.toInt64) * (l8.toInt64)) * l6) + ((l1.toInt64) * l4)) ((l1.toInt64) * l4) h) fun v40 h40 => if (lg_cmp v40 (0 : Int64)) ≤ 0 then (F_X11_lossPart_66 (F_X11_lossPart_9 n) l0 l1 l2 l3 l4 l6 l8 h40) else (if v40 = 0 then none else if v40 = 0 then none else F_X11_lossPart_66 (F_X11_lossPart_9 n) l0 l1 l2 l3 (((l1.toInt64) * l4) / v40) (((((l2.toInt64) * (l8.toInt64)) * l6) + ((l1.toInt64) * l4)) / v40) l8 h40))
set_option maxRecDepth 20000 in
set_option maxHeartbeats 4000000 in
theorem w_X11_lossPart_9 {d : Nat} {V : Nat → List (Nat × Value) → List Value → MH → Prop} {r : Int64} {hz : MH} (hd : 2 ≤ d) (C : mm_C d yX11_lossPart cX11_lossPart 15 (some .long) (.inr (some (.long r))) hz V) : ∀ (n : Nat) (l0 : Int32) (l1 : Int32) (l2 : Int32) (l3 : Int32) (l4 : Int64) (l6 : Int64) (l8 : Int32) (h : MH), F_X11_lossPart_9 n l0 l1 l2 l3 l4 l6 l8 h = some (r, hz) → V 9 [(0, .int l0), (1, .int l1), (2, .int l2), (3, .int l3), (4, .long l4), (6, .long l6), (8, .int l8)] [] h := by
  intro n
  induction n with
  | zero => intro l0 l1 l2 l3 l4 l6 l8 h hK; cases hK
  | succ n ih =>
    intro l0 l1 l2 l3 l4 l6 l8 h hK
    replace hK : (if l0 < l8 then (if l3 = 0 then (F_X11_lossPart_83 l6 h) else (F_X11_lossPart_83 l4 h)) else (mm_b2 (F_X11_commonDivisor ((((l2.toInt64) * (l8.toInt64)) * l6) + ((l1.toInt64) * l4)) ((l1.toInt64) * l4) h) fun v40 h40 => if (lg_cmp v40 (0 : Int64)) ≤ 0 then (F_X11_lossPart_66 (F_X11_lossPart_9 n) l0 l1 l2 l3 l4 l6 l8 h40) else (if v40 = 0 then none else if v40 = 0 then none else F_X11_lossPart_66 (F_X11_lossPart_9 n) l0 l1 l2 l3 (((l1.toInt64) * l4) / v40) (((((l2.toInt64) * (l8.toInt64)) * l6) + ((l1.toInt64) * l4)) / v40) l8 h40))) = some (r, hz) := hK
    refine mm_iload C (pc := 9) 6 dX11_lossPart_9 rfl ?_
    refine mm_iload_n C (pc := 11) 0 dX11_lossPart_11 rfl ?_
    refine mm_icmp_gt C (pc := 12) (tgt := 72) dX11_lossPart_12 (by decide) (fun hc => ?_) (fun hc => ?_)
    · replace hK := mm_ip hc hK
      refine mm_iload_n C (pc := 72) 3 dX11_lossPart_72 rfl ?_
      refine mm_if_eq C (pc := 73) (tgt := 81) dX11_lossPart_73 (by decide) (fun hc => ?_) (fun hc => ?_)
      · replace hK := mm_ip hc hK
        refine mm_lload C (pc := 81) 5 dX11_lossPart_81 rfl ?_
        refine mm_sub C [] rfl ?_
        exact w_X11_lossPart_83 hd C _ _ hK
      · replace hK := mm_in hc hK
        refine mm_lload C (pc := 76) 4 dX11_lossPart_76 rfl ?_
        refine mm_goto C (pc := 78) (tgt := 83) dX11_lossPart_78 (by decide) ?_
        refine mm_sub C [] rfl ?_
        exact w_X11_lossPart_83 hd C _ _ hK
    · replace hK := mm_in hc hK
      refine mm_iload_n C (pc := 15) 1 dX11_lossPart_15 rfl ?_
      refine mm_i2l C (pc := 16) dX11_lossPart_16 ?_
      refine mm_lload C (pc := 17) 4 dX11_lossPart_17 rfl ?_
      refine mm_lmul C (pc := 19) dX11_lossPart_19 ?_
      refine mm_lstore C (pc := 20) (i := 9) (lv' := [(9, .long ((l1.toInt64) * l4)), (0, .int l0), (1, .int l1), (2, .int l2), (3, .int l3), (4, .long l4), (6, .long l6), (8, .int l8)]) dX11_lossPart_20 (by decide) rfl ?_
      refine mm_iload_n C (pc := 22) 3 dX11_lossPart_22 rfl ?_
      refine mm_i2l C (pc := 23) dX11_lossPart_23 ?_
      refine mm_iload C (pc := 24) 7 dX11_lossPart_24 rfl ?_
      refine mm_i2l C (pc := 26) dX11_lossPart_26 ?_
      refine mm_lmul C (pc := 27) dX11_lossPart_27 ?_
      refine mm_lload C (pc := 28) 6 dX11_lossPart_28 rfl ?_
      refine mm_lmul C (pc := 30) dX11_lossPart_30 ?_
      refine mm_lload C (pc := 31) 0 dX11_lossPart_31 rfl ?_
      refine mm_ladd C (pc := 33) dX11_lossPart_33 ?_
      refine mm_lstore C (pc := 34) (i := 11) (lv' := [(11, .long ((((l2.toInt64) * (l8.toInt64)) * l6) + ((l1.toInt64) * l4))), (9, .long ((l1.toInt64) * l4)), (0, .int l0), (1, .int l1), (2, .int l2), (3, .int l3), (4, .long l4), (6, .long l6), (8, .int l8)]) dX11_lossPart_34 (by decide) rfl ?_
      refine mm_lload C (pc := 36) 0 dX11_lossPart_36 rfl ?_
      refine mm_lload C (pc := 38) 1 dX11_lossPart_38 rfl ?_
      replace hK := mm_b2s hK; obtain ⟨v40, h40, e40, hK⟩ := hK
      refine mm_callS C (pc := 40) (d1 := 1) (As := [.long ((((l2.toInt64) * (l8.toInt64)) * l6) + ((l1.toInt64) * l4)), .long ((l1.toInt64) * l4)]) (st := []) (vk := (some (.long v40))) ((S_X11_commonDivisor (by omega)) e40) tT_X11_commonDivisor wd_1864 wd_1865 (by omega) (by decide) rfl (by simp [mm_crf, mm_cti, mm_ctl]) rfl dX11_lossPart_40 ?_
      show V _ _ (.long v40 :: _) _
      refine mm_lstore C (pc := 43) (i := 13) (lv' := [(13, .long v40), (11, .long ((((l2.toInt64) * (l8.toInt64)) * l6) + ((l1.toInt64) * l4))), (9, .long ((l1.toInt64) * l4)), (0, .int l0), (1, .int l1), (2, .int l2), (3, .int l3), (4, .long l4), (6, .long l6), (8, .int l8)]) dX11_lossPart_43 (by decide) rfl ?_
      refine mm_lload C (pc := 45) 0 dX11_lossPart_45 rfl ?_
      refine mm_lconst C (pc := 47) (v := (0 : Int64)) dX11_lossPart_47 (by decide) ?_
      refine mm_lcmp C (pc := 48) dX11_lossPart_48 ?_
      refine mm_if_le C (pc := 49) (tgt := 66) dX11_lossPart_49 (by decide) (fun hc => ?_) (fun hc => ?_)
      · replace hK := mm_ip hc hK
        refine mm_sub C [3, 4, 5, 6, 7, 8, 9] rfl ?_
        exact w_X11_lossPart_66 hd C (fun z0 z1 z2 z3 z4 z5 z6 z7 hK => ih z0 z1 z2 z3 z4 z5 z6 z7 hK) _ _ _ _ _ _ _ _ hK
      · replace hK := mm_in hc hK
        refine mm_lload C (pc := 52) 2 dX11_lossPart_52 rfl ?_
        refine mm_lload C (pc := 54) 0 dX11_lossPart_54 rfl ?_
        by_cases hz56 : v40 = 0
        · rw [if_pos hz56] at hK; cases hK
        replace hK := mm_in hz56 hK
        refine mm_ldiv C (pc := 56) dX11_lossPart_56 hz56 ?_
        refine mm_lstore C (pc := 57) (i := 4) (lv' := [(4, .long (((l1.toInt64) * l4) / v40)), (13, .long v40), (11, .long ((((l2.toInt64) * (l8.toInt64)) * l6) + ((l1.toInt64) * l4))), (9, .long ((l1.toInt64) * l4)), (0, .int l0), (1, .int l1), (2, .int l2), (3, .int l3), (6, .long l6), (8, .int l8)]) dX11_lossPart_57 (by decide) rfl ?_
        refine mm_lload C (pc := 59) 2 dX11_lossPart_59 rfl ?_
        refine mm_lload C (pc := 61) 1 dX11_lossPart_61 rfl ?_
        by_cases hz63 : v40 = 0
        · rw [if_pos hz63] at hK; cases hK
        replace hK := mm_in hz63 hK
        refine mm_ldiv C (pc := 63) dX11_lossPart_63 hz63 ?_
        refine mm_lstore C (pc := 64) (i := 6) (lv' := [(6, .long (((((l2.toInt64) * (l8.toInt64)) * l6) + ((l1.toInt64) * l4)) / v40)), (4, .long (((l1.toInt64) * l4) / v40)), (13, .long v40), (11, .long ((((l2.toInt64) * (l8.toInt64)) * l6) + ((l1.toInt64) * l4))), (9, .long ((l1.toInt64) * l4)), (0, .int l0), (1, .int l1), (2, .int l2), (3, .int l3), (8, .int l8)]) dX11_lossPart_64 (by decide) rfl ?_
        refine mm_sub C [5, 6, 7, 8, 1, 0, 9] rfl ?_
        exact w_X11_lossPart_66 hd C (fun z0 z1 z2 z3 z4 z5 z6 z7 hK => ih z0 z1 z2 z3 z4 z5 z6 z7 hK) _ _ _ _ _ _ _ _ hK
def F_X11_lossPart (a0 : Int32) (a1 : Int32) (a2 : Int32) (a3 : Int32) (h : MH) : Option (Int64 × MH) := F_X11_lossPart_9 mm_N a0 a1 a2 a3 (1 : Int64) (1 : Int64) (1 : Int32) h
set_option maxRecDepth 20000 in
set_option maxHeartbeats 4000000 in
theorem S_X11_lossPart {d : Nat} (hd : 2 ≤ d) {a0 : Int32} {a1 : Int32} {a2 : Int32} {a3 : Int32} {h : MH} {r : Int64} {hz : MH} (hK : F_X11_lossPart a0 a1 a2 a3 h = some (r, hz)) : mm_M yX11_lossPart cX11_lossPart 15 (some .long) d [.int a0, .int a1, .int a2, .int a3] h (.inr (some (.long r))) hz := by
  refine mm_ofV (by decide +kernel) (by simp [lg_sl, mm_crf, mm_cti, mm_ctl]) (fun V C => ?_)
  rw [show lv_args 0 [.int a0, .int a1, .int a2, .int a3] = [(0, .int a0), (1, .int a1), (2, .int a2), (3, .int a3)] by simp [lv_args, mm_crf, mm_cti, mm_ctl]]
  unfold F_X11_lossPart at hK
  refine mm_lconst C (pc := 0) (v := (1 : Int64)) dX11_lossPart_0 (by decide) ?_
  refine mm_lstore C (pc := 1) (i := 4) (lv' := [(4, .long (1 : Int64)), (0, .int a0), (1, .int a1), (2, .int a2), (3, .int a3)]) dX11_lossPart_1 (by decide) rfl ?_
  refine mm_lconst C (pc := 3) (v := (1 : Int64)) dX11_lossPart_3 (by decide) ?_
  refine mm_lstore C (pc := 4) (i := 6) (lv' := [(6, .long (1 : Int64)), (4, .long (1 : Int64)), (0, .int a0), (1, .int a1), (2, .int a2), (3, .int a3)]) dX11_lossPart_4 (by decide) rfl ?_
  refine mm_iconst C (pc := 6) (v := (1 : Int32)) dX11_lossPart_6 (by decide) ?_
  refine mm_istore C (pc := 7) (i := 8) (lv' := [(8, .int (1 : Int32)), (6, .long (1 : Int64)), (4, .long (1 : Int64)), (0, .int a0), (1, .int a1), (2, .int a2), (3, .int a3)]) dX11_lossPart_7 (by decide) rfl ?_
  refine mm_sub C [3, 4, 5, 6, 2, 1, 0] rfl ?_
  exact w_X11_lossPart_9 hd C _ _ _ _ _ _ _ _ _ hK
theorem wd_1863 : Cond.code yX11_lossPart cX11_lossPart 15 (some .long) ∈ lw_good := mm_wd 1863 (by decide +kernel) (by decide +kernel)
theorem tT_X11_lossPart : mm_T yX11_lossPart cX11_lossPart 15 (some .long) 4 := ⟨wd_1863, wd_142, by decide +kernel, by decide +kernel, by decide +kernel, by decide +kernel⟩
theorem wd_1861 : Cond.methodLink RX11 358 yX11_lossPart ∈ lw_good := mm_wd 1861 (by decide +kernel) (by decide +kernel)
theorem wd_1862 : Cond.static yX11_lossPart ∈ lw_good := mm_wd 1862 (by decide +kernel) (by decide +kernel)
def F_X11_loss_41 (s0 : Int32) (s1 : Int32) (s2 : Int32) (s3 : Int32) (h : MH) : Option ((String ⊕ Int64) × MH) := mm_b2 (F_X11_lossPart s3 s2 s1 s0 h) fun v41 h41 => some (.inr v41, h41)
set_option maxRecDepth 20000 in
set_option maxHeartbeats 4000000 in
theorem w_X11_loss_41 {d : Nat} {V : Nat → List (Nat × Value) → List Value → MH → Prop} {r : String ⊕ Int64} {hz : MH} (hd : 7 ≤ d) (C : mm_C d yX11_loss cX11_loss 5 (some .long) (mm_oj r) hz V) (s0 : Int32) (s1 : Int32) (s2 : Int32) (s3 : Int32) (h : MH) (hK : F_X11_loss_41 s0 s1 s2 s3 h = some (r, hz)) : V 41 [] [.int s0, .int s1, .int s2, .int s3] h := by
  unfold F_X11_loss_41 at hK
  replace hK := mm_b2s hK; obtain ⟨v41, h41, e41, hK⟩ := hK
  refine mm_callS C (pc := 41) (d1 := 2) (As := [.int s3, .int s2, .int s1, .int s0]) (st := []) (vk := (some (.long v41))) ((S_X11_lossPart (by omega)) e41) tT_X11_lossPart wd_1861 wd_1862 (by omega) (by decide) rfl (by simp [mm_crf, mm_cti, mm_ctl]) rfl dX11_loss_41 ?_
  show V _ _ (.long v41 :: _) _
  cases hK
  exact mm_lret C (pc := 44) rfl dX11_loss_44 rfl rfl
def F_X11_loss (a0 : Option Nat) (a1 : Int32) (a2 : Int32) (a3 : Int32) (a4 : Int32) (h : MH) : Option ((String ⊕ Int64) × MH) := mm_b3 (F_X11_needWithin a1 (0 : Int32) (8 : Int32) h) fun _ h4 => mm_b3 (F_X11_needWithin a2 (1 : Int32) (20 : Int32) h4) fun _ h11 => mm_b3 (F_X11_needWithin a3 (1 : Int32) (20 : Int32) h11) fun _ h18 => mm_b3 (F_X11_needWithin a4 (0 : Int32) (1 : Int32) h18) fun _ h25 => if a4 = 0 then (F_X11_loss_41 (1 : Int32) a3 a2 a1 h25) else (F_X11_loss_41 (0 : Int32) a3 a2 a1 h25)
set_option maxRecDepth 20000 in
set_option maxHeartbeats 4000000 in
theorem S_X11_loss {d : Nat} (hd : 7 ≤ d) {a0 : Option Nat} {a1 : Int32} {a2 : Int32} {a3 : Int32} {a4 : Int32} {h : MH} {r : String ⊕ Int64} {hz : MH} (hK : F_X11_loss a0 a1 a2 a3 a4 h = some (r, hz)) : mm_M yX11_loss cX11_loss 5 (some .long) d [va_rf a0, .int a1, .int a2, .int a3, .int a4] h (mm_oj r) hz := by
  refine mm_ofV (by decide +kernel) (by simp [lg_sl, mm_crf, mm_cti, mm_ctl]) (fun V C => ?_)
  rw [show lv_args 0 [va_rf a0, .int a1, .int a2, .int a3, .int a4] = [(0, va_rf a0), (1, .int a1), (2, .int a2), (3, .int a3), (4, .int a4)] by simp [lv_args, mm_crf, mm_cti, mm_ctl]]
  unfold F_X11_loss at hK
  refine mm_iload_n C (pc := 0) 1 dX11_loss_0 rfl ?_
  refine mm_iconst C (pc := 1) (v := (0 : Int32)) dX11_loss_1 (by decide) ?_
  refine mm_bipush C (pc := 2) (v := (8 : Int32)) dX11_loss_2 (by decide) ?_
  replace hK := mm_b3s hK; rcases hK with ⟨E4, e4, rfl⟩ | ⟨v4, h4, e4, hK⟩
  · skip
    exact mm_callSX C (pc := 4) (d1 := 6) (As := [.int a1, .int (0 : Int32), .int (8 : Int32)]) (st := []) ((S_X11_needWithin (by omega)) e4) tT_X11_needWithin wd_1163 wd_1164 (by omega) (by decide) rfl (by simp [mm_crf, mm_cti, mm_ctl]) rfl dX11_loss_4 rfl rfl
  refine mm_callS C (pc := 4) (d1 := 6) (As := [.int a1, .int (0 : Int32), .int (8 : Int32)]) (st := []) (vk := none) ((S_X11_needWithin (by omega)) e4) tT_X11_needWithin wd_1163 wd_1164 (by omega) (by decide) rfl (by simp [mm_crf, mm_cti, mm_ctl]) rfl dX11_loss_4 ?_
  show V _ _ [] _
  refine mm_iload_n C (pc := 7) 2 dX11_loss_7 rfl ?_
  refine mm_iconst C (pc := 8) (v := (1 : Int32)) dX11_loss_8 (by decide) ?_
  refine mm_bipush C (pc := 9) (v := (20 : Int32)) dX11_loss_9 (by decide) ?_
  replace hK := mm_b3s hK; rcases hK with ⟨E11, e11, rfl⟩ | ⟨v11, h11, e11, hK⟩
  · skip
    exact mm_callSX C (pc := 11) (d1 := 6) (As := [.int a2, .int (1 : Int32), .int (20 : Int32)]) (st := []) ((S_X11_needWithin (by omega)) e11) tT_X11_needWithin wd_1163 wd_1164 (by omega) (by decide) rfl (by simp [mm_crf, mm_cti, mm_ctl]) rfl dX11_loss_11 rfl rfl
  refine mm_callS C (pc := 11) (d1 := 6) (As := [.int a2, .int (1 : Int32), .int (20 : Int32)]) (st := []) (vk := none) ((S_X11_needWithin (by omega)) e11) tT_X11_needWithin wd_1163 wd_1164 (by omega) (by decide) rfl (by simp [mm_crf, mm_cti, mm_ctl]) rfl dX11_loss_11 ?_
  show V _ _ [] _
  refine mm_iload_n C (pc := 14) 3 dX11_loss_14 rfl ?_
  refine mm_iconst C (pc := 15) (v := (1 : Int32)) dX11_loss_15 (by decide) ?_
  refine mm_bipush C (pc := 16) (v := (20 : Int32)) dX11_loss_16 (by decide) ?_
  replace hK := mm_b3s hK; rcases hK with ⟨E18, e18, rfl⟩ | ⟨v18, h18, e18, hK⟩
  · skip
    exact mm_callSX C (pc := 18) (d1 := 6) (As := [.int a3, .int (1 : Int32), .int (20 : Int32)]) (st := []) ((S_X11_needWithin (by omega)) e18) tT_X11_needWithin wd_1163 wd_1164 (by omega) (by decide) rfl (by simp [mm_crf, mm_cti, mm_ctl]) rfl dX11_loss_18 rfl rfl
  refine mm_callS C (pc := 18) (d1 := 6) (As := [.int a3, .int (1 : Int32), .int (20 : Int32)]) (st := []) (vk := none) ((S_X11_needWithin (by omega)) e18) tT_X11_needWithin wd_1163 wd_1164 (by omega) (by decide) rfl (by simp [mm_crf, mm_cti, mm_ctl]) rfl dX11_loss_18 ?_
  show V _ _ [] _
  refine mm_iload C (pc := 21) 4 dX11_loss_21 rfl ?_
  refine mm_iconst C (pc := 23) (v := (0 : Int32)) dX11_loss_23 (by decide) ?_
  refine mm_iconst C (pc := 24) (v := (1 : Int32)) dX11_loss_24 (by decide) ?_
  replace hK := mm_b3s hK; rcases hK with ⟨E25, e25, rfl⟩ | ⟨v25, h25, e25, hK⟩
  · skip
    exact mm_callSX C (pc := 25) (d1 := 6) (As := [.int a4, .int (0 : Int32), .int (1 : Int32)]) (st := []) ((S_X11_needWithin (by omega)) e25) tT_X11_needWithin wd_1163 wd_1164 (by omega) (by decide) rfl (by simp [mm_crf, mm_cti, mm_ctl]) rfl dX11_loss_25 rfl rfl
  refine mm_callS C (pc := 25) (d1 := 6) (As := [.int a4, .int (0 : Int32), .int (1 : Int32)]) (st := []) (vk := none) ((S_X11_needWithin (by omega)) e25) tT_X11_needWithin wd_1163 wd_1164 (by omega) (by decide) rfl (by simp [mm_crf, mm_cti, mm_ctl]) rfl dX11_loss_25 ?_
  show V _ _ [] _
  refine mm_iload_n C (pc := 28) 1 dX11_loss_28 rfl ?_
  refine mm_iload_n C (pc := 29) 2 dX11_loss_29 rfl ?_
  refine mm_iload_n C (pc := 30) 3 dX11_loss_30 rfl ?_
  refine mm_iload C (pc := 31) 4 dX11_loss_31 rfl ?_
  refine mm_if_ne C (pc := 33) (tgt := 40) dX11_loss_33 (by decide) (fun hc => ?_) (fun hc => ?_)
  · replace hK := mm_in hc hK
    refine mm_iconst C (pc := 40) (v := (0 : Int32)) dX11_loss_40 (by decide) ?_
    refine mm_sub C [] rfl ?_
    exact w_X11_loss_41 hd C _ _ _ _ _ hK
  · replace hK := mm_ip hc hK
    refine mm_iconst C (pc := 36) (v := (1 : Int32)) dX11_loss_36 (by decide) ?_
    refine mm_goto C (pc := 37) (tgt := 41) dX11_loss_37 (by decide) ?_
    refine mm_sub C [] rfl ?_
    exact w_X11_loss_41 hd C _ _ _ _ _ hK
def F_X11_fewest_25 : Nat → Int32 → Int32 → Int32 → Int32 → MH → Option ((String ⊕ Int32) × MH)
  | 0 => fun _ _ _ _ _ => none
  | n + 1 => fun l1 l2 l3 l4 h => if (8 : Int32) < l4 then (some (.inr ((-1) : Int32), h)) else (mm_b2 (F_X11_lossPart l4 l1 l2 (1 : Int32) h) fun v37 h37 => mm_b2 (F_X11_lossPart l4 l1 l2 (0 : Int32) h37) fun v48 h48 => if 0 < (lg_cmp (v37 * (l3.toInt64)) v48) then (F_X11_fewest_25 n l1 l2 l3 (l4 + (1 : Int32)) h48) else (some (.inr l4, h48)))
set_option maxRecDepth 20000 in
set_option maxHeartbeats 4000000 in
theorem w_X11_fewest_25 {d : Nat} {V : Nat → List (Nat × Value) → List Value → MH → Prop} {r : String ⊕ Int32} {hz : MH} (hd : 7 ≤ d) (C : mm_C d yX11_fewest cX11_fewest 5 (some .int) (mm_oi r) hz V) : ∀ (n : Nat) (l1 : Int32) (l2 : Int32) (l3 : Int32) (l4 : Int32) (h : MH), F_X11_fewest_25 n l1 l2 l3 l4 h = some (r, hz) → V 25 [(1, .int l1), (2, .int l2), (3, .int l3), (4, .int l4)] [] h := by
  intro n
  induction n with
  | zero => intro l1 l2 l3 l4 h hK; cases hK
  | succ n ih =>
    intro l1 l2 l3 l4 h hK
    replace hK : (if (8 : Int32) < l4 then (some (.inr ((-1) : Int32), h)) else (mm_b2 (F_X11_lossPart l4 l1 l2 (1 : Int32) h) fun v37 h37 => mm_b2 (F_X11_lossPart l4 l1 l2 (0 : Int32) h37) fun v48 h48 => if 0 < (lg_cmp (v37 * (l3.toInt64)) v48) then (F_X11_fewest_25 n l1 l2 l3 (l4 + (1 : Int32)) h48) else (some (.inr l4, h48)))) = some (r, hz) := hK
    refine mm_iload C (pc := 25) 3 dX11_fewest_25 rfl ?_
    refine mm_bipush C (pc := 27) (v := (8 : Int32)) dX11_fewest_27 (by decide) ?_
    refine mm_icmp_gt C (pc := 29) (tgt := 64) dX11_fewest_29 (by decide) (fun hc => ?_) (fun hc => ?_)
    · replace hK := mm_ip hc hK
      refine mm_iconst C (pc := 64) (v := ((-1) : Int32)) dX11_fewest_64 (by decide) ?_
      cases hK
      exact mm_iret C (pc := 65) rfl dX11_fewest_65 rfl rfl
    · replace hK := mm_in hc hK
      refine mm_iload C (pc := 32) 3 dX11_fewest_32 rfl ?_
      refine mm_iload_n C (pc := 34) 0 dX11_fewest_34 rfl ?_
      refine mm_iload_n C (pc := 35) 1 dX11_fewest_35 rfl ?_
      refine mm_iconst C (pc := 36) (v := (1 : Int32)) dX11_fewest_36 (by decide) ?_
      replace hK := mm_b2s hK; obtain ⟨v37, h37, e37, hK⟩ := hK
      refine mm_callS C (pc := 37) (d1 := 2) (As := [.int l4, .int l1, .int l2, .int (1 : Int32)]) (st := []) (vk := (some (.long v37))) ((S_X11_lossPart (by omega)) e37) tT_X11_lossPart wd_1861 wd_1862 (by omega) (by decide) rfl (by simp [mm_crf, mm_cti, mm_ctl]) rfl dX11_fewest_37 ?_
      show V _ _ (.long v37 :: _) _
      refine mm_iload_n C (pc := 40) 2 dX11_fewest_40 rfl ?_
      refine mm_i2l C (pc := 41) dX11_fewest_41 ?_
      refine mm_lmul C (pc := 42) dX11_fewest_42 ?_
      refine mm_iload C (pc := 43) 3 dX11_fewest_43 rfl ?_
      refine mm_iload_n C (pc := 45) 0 dX11_fewest_45 rfl ?_
      refine mm_iload_n C (pc := 46) 1 dX11_fewest_46 rfl ?_
      refine mm_iconst C (pc := 47) (v := (0 : Int32)) dX11_fewest_47 (by decide) ?_
      replace hK := mm_b2s hK; obtain ⟨v48, h48, e48, hK⟩ := hK
      refine mm_callS C (pc := 48) (d1 := 2) (As := [.int l4, .int l1, .int l2, .int (0 : Int32)]) (st := [.long (v37 * (l3.toInt64))]) (vk := (some (.long v48))) ((S_X11_lossPart (by omega)) e48) tT_X11_lossPart wd_1861 wd_1862 (by omega) (by decide) rfl (by simp [mm_crf, mm_cti, mm_ctl]) rfl dX11_fewest_48 ?_
      show V _ _ (.long v48 :: _) _
      refine mm_lcmp C (pc := 51) dX11_fewest_51 ?_
      refine mm_if_gt C (pc := 52) (tgt := 58) dX11_fewest_52 (by decide) (fun hc => ?_) (fun hc => ?_)
      · replace hK := mm_ip hc hK
        refine mm_iinc C (pc := 58) (v := (l4 + (1 : Int32))) (lv' := [(4, .int (l4 + (1 : Int32))), (1, .int l1), (2, .int l2), (3, .int l3)]) 3 dX11_fewest_58 rfl rfl (by decide) rfl ?_
        refine mm_goto C (pc := 61) (tgt := 25) dX11_fewest_61 (by decide) ?_
        refine mm_sub C [1, 2, 3, 0] rfl ?_
        exact ih _ _ _ _ _ hK
      · replace hK := mm_in hc hK
        refine mm_iload C (pc := 55) 3 dX11_fewest_55 rfl ?_
        cases hK
        exact mm_iret C (pc := 57) rfl dX11_fewest_57 rfl rfl
def F_X11_fewest (a0 : Option Nat) (a1 : Int32) (a2 : Int32) (a3 : Int32) (h : MH) : Option ((String ⊕ Int32) × MH) := mm_b3 (F_X11_needWithin a1 (1 : Int32) (20 : Int32) h) fun _ h4 => mm_b3 (F_X11_needWithin a2 (1 : Int32) (20 : Int32) h4) fun _ h11 => mm_b3 (F_X11_needWithin a3 (1 : Int32) (999 : Int32) h11) fun _ h19 => F_X11_fewest_25 mm_N a1 a2 a3 (0 : Int32) h19
set_option maxRecDepth 20000 in
set_option maxHeartbeats 4000000 in
theorem S_X11_fewest {d : Nat} (hd : 7 ≤ d) {a0 : Option Nat} {a1 : Int32} {a2 : Int32} {a3 : Int32} {h : MH} {r : String ⊕ Int32} {hz : MH} (hK : F_X11_fewest a0 a1 a2 a3 h = some (r, hz)) : mm_M yX11_fewest cX11_fewest 5 (some .int) d [va_rf a0, .int a1, .int a2, .int a3] h (mm_oi r) hz := by
  refine mm_ofV (by decide +kernel) (by simp [lg_sl, mm_crf, mm_cti, mm_ctl]) (fun V C => ?_)
  rw [show lv_args 0 [va_rf a0, .int a1, .int a2, .int a3] = [(0, va_rf a0), (1, .int a1), (2, .int a2), (3, .int a3)] by simp [lv_args, mm_crf, mm_cti, mm_ctl]]
  unfold F_X11_fewest at hK
  refine mm_iload_n C (pc := 0) 1 dX11_fewest_0 rfl ?_
  refine mm_iconst C (pc := 1) (v := (1 : Int32)) dX11_fewest_1 (by decide) ?_
  refine mm_bipush C (pc := 2) (v := (20 : Int32)) dX11_fewest_2 (by decide) ?_
  replace hK := mm_b3s hK; rcases hK with ⟨E4, e4, rfl⟩ | ⟨v4, h4, e4, hK⟩
  · skip
    exact mm_callSX C (pc := 4) (d1 := 6) (As := [.int a1, .int (1 : Int32), .int (20 : Int32)]) (st := []) ((S_X11_needWithin (by omega)) e4) tT_X11_needWithin wd_1163 wd_1164 (by omega) (by decide) rfl (by simp [mm_crf, mm_cti, mm_ctl]) rfl dX11_fewest_4 rfl rfl
  refine mm_callS C (pc := 4) (d1 := 6) (As := [.int a1, .int (1 : Int32), .int (20 : Int32)]) (st := []) (vk := none) ((S_X11_needWithin (by omega)) e4) tT_X11_needWithin wd_1163 wd_1164 (by omega) (by decide) rfl (by simp [mm_crf, mm_cti, mm_ctl]) rfl dX11_fewest_4 ?_
  show V _ _ [] _
  refine mm_iload_n C (pc := 7) 2 dX11_fewest_7 rfl ?_
  refine mm_iconst C (pc := 8) (v := (1 : Int32)) dX11_fewest_8 (by decide) ?_
  refine mm_bipush C (pc := 9) (v := (20 : Int32)) dX11_fewest_9 (by decide) ?_
  replace hK := mm_b3s hK; rcases hK with ⟨E11, e11, rfl⟩ | ⟨v11, h11, e11, hK⟩
  · skip
    exact mm_callSX C (pc := 11) (d1 := 6) (As := [.int a2, .int (1 : Int32), .int (20 : Int32)]) (st := []) ((S_X11_needWithin (by omega)) e11) tT_X11_needWithin wd_1163 wd_1164 (by omega) (by decide) rfl (by simp [mm_crf, mm_cti, mm_ctl]) rfl dX11_fewest_11 rfl rfl
  refine mm_callS C (pc := 11) (d1 := 6) (As := [.int a2, .int (1 : Int32), .int (20 : Int32)]) (st := []) (vk := none) ((S_X11_needWithin (by omega)) e11) tT_X11_needWithin wd_1163 wd_1164 (by omega) (by decide) rfl (by simp [mm_crf, mm_cti, mm_ctl]) rfl dX11_fewest_11 ?_
  show V _ _ [] _
  refine mm_iload_n C (pc := 14) 3 dX11_fewest_14 rfl ?_
  refine mm_iconst C (pc := 15) (v := (1 : Int32)) dX11_fewest_15 (by decide) ?_
  refine mm_sipush C (pc := 16) (v := (999 : Int32)) dX11_fewest_16 (by decide) ?_
  replace hK := mm_b3s hK; rcases hK with ⟨E19, e19, rfl⟩ | ⟨v19, h19, e19, hK⟩
  · skip
    exact mm_callSX C (pc := 19) (d1 := 6) (As := [.int a3, .int (1 : Int32), .int (999 : Int32)]) (st := []) ((S_X11_needWithin (by omega)) e19) tT_X11_needWithin wd_1163 wd_1164 (by omega) (by decide) rfl (by simp [mm_crf, mm_cti, mm_ctl]) rfl dX11_fewest_19 rfl rfl
  refine mm_callS C (pc := 19) (d1 := 6) (As := [.int a3, .int (1 : Int32), .int (999 : Int32)]) (st := []) (vk := none) ((S_X11_needWithin (by omega)) e19) tT_X11_needWithin wd_1163 wd_1164 (by omega) (by decide) rfl (by simp [mm_crf, mm_cti, mm_ctl]) rfl dX11_fewest_19 ?_
  show V _ _ [] _
  refine mm_iconst C (pc := 22) (v := (0 : Int32)) dX11_fewest_22 (by decide) ?_
  refine mm_istore C (pc := 23) (i := 4) (lv' := [(4, .int (0 : Int32)), (0, va_rf a0), (1, .int a1), (2, .int a2), (3, .int a3)]) dX11_fewest_23 (by decide) rfl ?_
  refine mm_sub C [2, 3, 4, 0] rfl ?_
  exact w_X11_fewest_25 hd C _ _ _ _ _ _ hK
def F_X11_needThrees (a0 : Option Nat) (a1 : Option Nat) (h : MH) : Option ((String ⊕ Unit) × MH) := mm_b2 (cV h a1 10 (F_X10_many a1 h)) fun v1 h1 => if (v1 - v1 / (3 : Int32) * (3 : Int32)) = 0 then (mm_b2 (cV h1 a1 10 (F_X10_many a1 h1)) fun v21 h21 => mm_b3 (F_X11_needWithin (v21 / (3 : Int32)) (1 : Int32) (5 : Int32) h21) fun _ h28 => mm_b3 (cV h28 a0 11 (F_X11_needLinesIn a0 a1 h28)) fun _ h33 => some (.inr (), h33)) else ((tH h1).bind fun h9 => some (.inl "java/lang/IllegalArgumentException", h9))
set_option maxRecDepth 20000 in
set_option maxHeartbeats 4000000 in
theorem S_X11_needThrees {d : Nat} (hd : 7 ≤ d) {a0 : Option Nat} {a1 : Option Nat} {h : MH} {r : String ⊕ Unit} {hz : MH} (hK : F_X11_needThrees a0 a1 h = some (r, hz)) : mm_M yX11_needThrees cX11_needThrees 2 none d [va_rf a0, va_rf a1] h (mm_ov r) hz := by
  refine mm_ofV (by decide +kernel) (by simp [lg_sl, mm_crf, mm_cti, mm_ctl]) (fun V C => ?_)
  rw [show lv_args 0 [va_rf a0, va_rf a1] = [(0, va_rf a0), (1, va_rf a1)] by simp [lv_args, mm_crf, mm_cti, mm_ctl]]
  unfold F_X11_needThrees at hK
  refine mm_aload_n C (pc := 0) 1 dX11_needThrees_0 rfl ?_
  replace hK := mm_b2s hK; obtain ⟨v1, h1, e1, hK⟩ := hK
  obtain ⟨o1, e1⟩ := cV_some e1
  refine mm_callV C (pc := 1) (d1 := 1) (As := []) (st := []) (vk := (some (.int v1))) ((S_X10_many (by omega)) e1) tT_X10_many o1 (Or.inr ⟨_, rfl, rfl⟩) wd_1570 wd_1571 wd_1572 (by omega) (by decide) rfl (by simp [mm_crf, mm_cti, mm_ctl]) rfl dX11_needThrees_1 ?_
  show V _ _ (.int v1 :: _) _
  refine mm_iconst C (pc := 4) (v := (3 : Int32)) dX11_needThrees_4 (by decide) ?_
  refine mm_irem C (pc := 5) dX11_needThrees_5 (by decide) ?_
  refine mm_if_eq C (pc := 6) (tgt := 20) dX11_needThrees_6 (by decide) (fun hc => ?_) (fun hc => ?_)
  · replace hK := mm_ip hc hK
    refine mm_aload_n C (pc := 20) 1 dX11_needThrees_20 rfl ?_
    replace hK := mm_b2s hK; obtain ⟨v21, h21, e21, hK⟩ := hK
    obtain ⟨o21, e21⟩ := cV_some e21
    refine mm_callV C (pc := 21) (d1 := 1) (As := []) (st := []) (vk := (some (.int v21))) ((S_X10_many (by omega)) e21) tT_X10_many o21 (Or.inr ⟨_, rfl, rfl⟩) wd_1570 wd_1571 wd_1572 (by omega) (by decide) rfl (by simp [mm_crf, mm_cti, mm_ctl]) rfl dX11_needThrees_21 ?_
    show V _ _ (.int v21 :: _) _
    refine mm_iconst C (pc := 24) (v := (3 : Int32)) dX11_needThrees_24 (by decide) ?_
    refine mm_idiv C (pc := 25) dX11_needThrees_25 (by decide) ?_
    refine mm_iconst C (pc := 26) (v := (1 : Int32)) dX11_needThrees_26 (by decide) ?_
    refine mm_iconst C (pc := 27) (v := (5 : Int32)) dX11_needThrees_27 (by decide) ?_
    replace hK := mm_b3s hK; rcases hK with ⟨E28, e28, rfl⟩ | ⟨v28, h28, e28, hK⟩
    · skip
      exact mm_callSX C (pc := 28) (d1 := 6) (As := [.int (v21 / (3 : Int32)), .int (1 : Int32), .int (5 : Int32)]) (st := []) ((S_X11_needWithin (by omega)) e28) tT_X11_needWithin wd_1163 wd_1164 (by omega) (by decide) rfl (by simp [mm_crf, mm_cti, mm_ctl]) rfl dX11_needThrees_28 rfl rfl
    refine mm_callS C (pc := 28) (d1 := 6) (As := [.int (v21 / (3 : Int32)), .int (1 : Int32), .int (5 : Int32)]) (st := []) (vk := none) ((S_X11_needWithin (by omega)) e28) tT_X11_needWithin wd_1163 wd_1164 (by omega) (by decide) rfl (by simp [mm_crf, mm_cti, mm_ctl]) rfl dX11_needThrees_28 ?_
    show V _ _ [] _
    refine mm_aload_n C (pc := 31) 0 dX11_needThrees_31 rfl ?_
    refine mm_aload_n C (pc := 32) 1 dX11_needThrees_32 rfl ?_
    replace hK := mm_b3s hK; rcases hK with ⟨E33, e33, rfl⟩ | ⟨v33, h33, e33, hK⟩
    · obtain ⟨o33, e33⟩ := cV_some e33
      exact mm_callVX C (pc := 33) (d1 := 6) (As := [va_rf a1]) (st := []) ((S_X11_needLinesIn (by omega)) e33) tT_X11_needLinesIn o33 (Or.inr ⟨_, rfl, rfl⟩) wd_1760 wd_1762 wd_51 (by omega) (by decide) rfl (by simp [mm_crf, mm_cti, mm_ctl]) rfl dX11_needThrees_33 rfl rfl
    obtain ⟨o33, e33⟩ := cV_some e33
    refine mm_callV C (pc := 33) (d1 := 6) (As := [va_rf a1]) (st := []) (vk := none) ((S_X11_needLinesIn (by omega)) e33) tT_X11_needLinesIn o33 (Or.inr ⟨_, rfl, rfl⟩) wd_1760 wd_1762 wd_51 (by omega) (by decide) rfl (by simp [mm_crf, mm_cti, mm_ctl]) rfl dX11_needThrees_33 ?_
    show V _ _ [] _
    cases hK
    exact mm_vret C (pc := 36) rfl dX11_needThrees_36 rfl rfl
  · replace hK := mm_in hc hK
    replace hK := mm_bd hK; obtain ⟨h9, e9, hK⟩ := hK
    cases hK
    exact mm_throwW C (pc := 9) (i := 29) tW_X11_264_268 (by rfl) dX11_needThrees_9 dX11_needThrees_12 dX11_needThrees_13 dX11_needThrees_16 dX11_needThrees_19 (by omega) (by simp [mm_crf, mm_cti, mm_ctl]) rfl e9
def F_X11_byRule_37 (s0 : Int32) (h : MH) : Option (Int32 × MH) := some (s0, h)
set_option maxRecDepth 20000 in
set_option maxHeartbeats 4000000 in
theorem w_X11_byRule_37 {d : Nat} {V : Nat → List (Nat × Value) → List Value → MH → Prop} {r : Int32} {hz : MH} (hd : 1 ≤ d) (C : mm_C d yX11_byRule cX11_byRule 5 (some .int) (.inr (some (.int r))) hz V) (s0 : Int32) (h : MH) (hK : F_X11_byRule_37 s0 h = some (r, hz)) : V 37 [] [.int s0] h := by
  unfold F_X11_byRule_37 at hK
  cases hK
  exact mm_iret C (pc := 37) rfl dX11_byRule_37 rfl rfl
def F_X11_byRule (a0 : Option Nat) (a1 : Int32) (a2 : Int32) (a3 : Int32) (h : MH) : Option (Int32 × MH) := (gR h a0 11 5).bind fun v1 => (gR h v1 0 2).bind fun v4 => (gI h v4 8 0).bind fun v7 => if v7 ≤ 0 then (F_X11_byRule_37 ((-1) : Int32) h) else (if v7 = 0 then none else F_X11_byRule_37 (((((a1 / (10 : Int32)) * a2) + a3) + (a1 - a1 / (10 : Int32) * (10 : Int32))) - ((((a1 / (10 : Int32)) * a2) + a3) + (a1 - a1 / (10 : Int32) * (10 : Int32))) / v7 * v7) h)
set_option maxRecDepth 20000 in
set_option maxHeartbeats 4000000 in
theorem S_X11_byRule {d : Nat} (hd : 1 ≤ d) {a0 : Option Nat} {a1 : Int32} {a2 : Int32} {a3 : Int32} {h : MH} {r : Int32} {hz : MH} (hK : F_X11_byRule a0 a1 a2 a3 h = some (r, hz)) : mm_M yX11_byRule cX11_byRule 5 (some .int) d [va_rf a0, .int a1, .int a2, .int a3] h (.inr (some (.int r))) hz := by
  refine mm_ofV (by decide +kernel) (by simp [lg_sl, mm_crf, mm_cti, mm_ctl]) (fun V C => ?_)
  rw [show lv_args 0 [va_rf a0, .int a1, .int a2, .int a3] = [(0, va_rf a0), (1, .int a1), (2, .int a2), (3, .int a3)] by simp [lv_args, mm_crf, mm_cti, mm_ctl]]
  unfold F_X11_byRule at hK
  refine mm_aload_n C (pc := 0) 0 dX11_byRule_0 rfl ?_
  replace hK := mm_bd hK; obtain ⟨v1, e1, hK⟩ := hK
  refine mm_getr C (pc := 1) (k := 5) inGX11 rfl (by decide) wd_850 dX11_byRule_1 e1 ?_
  replace hK := mm_bd hK; obtain ⟨v4, e4, hK⟩ := hK
  refine mm_getr C (pc := 4) (k := 2) inGX0 rfl (by decide) wd_819 dX11_byRule_4 e4 ?_
  replace hK := mm_bd hK; obtain ⟨v7, e7, hK⟩ := hK
  refine mm_geti C (pc := 7) (k := 0) inGX8 rfl (by decide) wd_776 dX11_byRule_7 e7 ?_
  refine mm_istore C (pc := 10) (i := 4) (lv' := [(4, .int v7), (0, va_rf a0), (1, .int a1), (2, .int a2), (3, .int a3)]) dX11_byRule_10 (by decide) rfl ?_
  refine mm_iload C (pc := 12) 0 dX11_byRule_12 rfl ?_
  refine mm_if_le C (pc := 14) (tgt := 36) dX11_byRule_14 (by decide) (fun hc => ?_) (fun hc => ?_)
  · replace hK := mm_ip hc hK
    refine mm_iconst C (pc := 36) (v := ((-1) : Int32)) dX11_byRule_36 (by decide) ?_
    refine mm_sub C [] rfl ?_
    exact w_X11_byRule_37 hd C _ _ hK
  · replace hK := mm_in hc hK
    refine mm_iload_n C (pc := 17) 2 dX11_byRule_17 rfl ?_
    refine mm_bipush C (pc := 18) (v := (10 : Int32)) dX11_byRule_18 (by decide) ?_
    refine mm_idiv C (pc := 20) dX11_byRule_20 (by decide) ?_
    refine mm_iload_n C (pc := 21) 3 dX11_byRule_21 rfl ?_
    refine mm_imul C (pc := 22) dX11_byRule_22 ?_
    refine mm_iload_n C (pc := 23) 4 dX11_byRule_23 rfl ?_
    refine mm_iadd C (pc := 24) dX11_byRule_24 ?_
    refine mm_iload_n C (pc := 25) 2 dX11_byRule_25 rfl ?_
    refine mm_bipush C (pc := 26) (v := (10 : Int32)) dX11_byRule_26 (by decide) ?_
    refine mm_irem C (pc := 28) dX11_byRule_28 (by decide) ?_
    refine mm_iadd C (pc := 29) dX11_byRule_29 ?_
    refine mm_iload C (pc := 30) 0 dX11_byRule_30 rfl ?_
    by_cases hz32 : v7 = 0
    · rw [if_pos hz32] at hK; cases hK
    replace hK := mm_in hz32 hK
    refine mm_irem C (pc := 32) dX11_byRule_32 hz32 ?_
    refine mm_goto C (pc := 33) (tgt := 37) dX11_byRule_33 (by decide) ?_
    refine mm_sub C [] rfl ?_
    exact w_X11_byRule_37 hd C _ _ hK
theorem wd_1893 : Cond.code yX11_byRule cX11_byRule 5 (some .int) ∈ lw_good := mm_wd 1893 (by decide +kernel) (by decide +kernel)
theorem tT_X11_byRule : mm_T yX11_byRule cX11_byRule 5 (some .int) 3 := ⟨wd_1893, wd_142, by decide +kernel, by decide +kernel, by decide +kernel, by decide +kernel⟩
theorem wd_1890 : Cond.methodLink RX11 385 yX11_byRule ∈ lw_good := mm_wd 1890 (by decide +kernel) (by decide +kernel)
theorem wd_1892 : Cond.instanceMethod yX11_byRule ∈ lw_good := mm_wd 1892 (by decide +kernel) (by decide +kernel)
theorem wd_58 : Cond.selects RX11 yX11_byRule yX11_byRule ∈ lw_good := mm_wd 58 (by decide +kernel) (by decide +kernel)
def F_X11_explains_27 (h : MH) : Option (Int32 × MH) := rZ (0 : Int32) h
set_option maxRecDepth 20000 in
set_option maxHeartbeats 4000000 in
theorem w_X11_explains_27 {d : Nat} {V : Nat → List (Nat × Value) → List Value → MH → Prop} {r : Int32} {hz : MH} (hd : 3 ≤ d) (C : mm_C d yX11_explains cX11_explains 5 (some .boolean) (.inr (some (.int r))) hz V) (h : MH) (hK : F_X11_explains_27  h = some (r, hz)) : V 27 [] [] h := by
  unfold F_X11_explains_27 at hK
  refine mm_iconst C (pc := 27) (v := (0 : Int32)) dX11_explains_27 (by decide) ?_
  replace hK := rZ_some hK; obtain ⟨hv28, hK⟩ := hK
  cases hK
  exact mm_zret C (pc := 28) rfl (mm_nrZ hv28) dX11_explains_28 rfl rfl
def F_X11_explains_32 : Nat → Option Nat → Int32 → Option Nat → Int32 → MH → Option (Int32 × MH)
  | 0 => fun _ _ _ _ _ => none
  | n + 1 => fun l0 l1 l2 l4 h => mm_b2 (cV h l2 10 (F_X10_many l2 h)) fun v37 h37 => if v37 ≤ (l4 + (2 : Int32)) then (rZ (1 : Int32) h37) else (mm_b2 (cV h37 l2 10 (F_X10_at l2 l4 h37)) fun v48 h48 => mm_b2 (cV h48 l2 10 (F_X10_at l2 (l4 + (1 : Int32)) h48)) fun v57 h57 => mm_b2 (cV h57 l0 11 (F_X11_byRule l0 l1 (v48.toInt32) (v57.toInt32) h57)) fun v61 h61 => mm_b2 (cV h61 l2 10 (F_X10_at l2 (l4 + (2 : Int32)) h61)) fun v70 h70 => if (lg_cmp (v61.toInt64) v70) = 0 then (F_X11_explains_32 n l0 l1 l2 (l4 + (3 : Int32)) h70) else (rZ (0 : Int32) h70))
set_option maxRecDepth 20000 in
set_option maxHeartbeats 4000000 in
theorem w_X11_explains_32 {d : Nat} {V : Nat → List (Nat × Value) → List Value → MH → Prop} {r : Int32} {hz : MH} (hd : 3 ≤ d) (C : mm_C d yX11_explains cX11_explains 5 (some .boolean) (.inr (some (.int r))) hz V) : ∀ (n : Nat) (l0 : Option Nat) (l1 : Int32) (l2 : Option Nat) (l4 : Int32) (h : MH), F_X11_explains_32 n l0 l1 l2 l4 h = some (r, hz) → V 32 [(0, va_rf l0), (1, .int l1), (2, va_rf l2), (4, .int l4)] [] h := by
  intro n
  induction n with
  | zero => intro l0 l1 l2 l4 h hK; cases hK
  | succ n ih =>
    intro l0 l1 l2 l4 h hK
    replace hK : (mm_b2 (cV h l2 10 (F_X10_many l2 h)) fun v37 h37 => if v37 ≤ (l4 + (2 : Int32)) then (rZ (1 : Int32) h37) else (mm_b2 (cV h37 l2 10 (F_X10_at l2 l4 h37)) fun v48 h48 => mm_b2 (cV h48 l2 10 (F_X10_at l2 (l4 + (1 : Int32)) h48)) fun v57 h57 => mm_b2 (cV h57 l0 11 (F_X11_byRule l0 l1 (v48.toInt32) (v57.toInt32) h57)) fun v61 h61 => mm_b2 (cV h61 l2 10 (F_X10_at l2 (l4 + (2 : Int32)) h61)) fun v70 h70 => if (lg_cmp (v61.toInt64) v70) = 0 then (F_X11_explains_32 n l0 l1 l2 (l4 + (3 : Int32)) h70) else (rZ (0 : Int32) h70))) = some (r, hz) := hK
    refine mm_iload C (pc := 32) 3 dX11_explains_32 rfl ?_
    refine mm_iconst C (pc := 34) (v := (2 : Int32)) dX11_explains_34 (by decide) ?_
    refine mm_iadd C (pc := 35) dX11_explains_35 ?_
    refine mm_aload_n C (pc := 36) 2 dX11_explains_36 rfl ?_
    replace hK := mm_b2s hK; obtain ⟨v37, h37, e37, hK⟩ := hK
    obtain ⟨o37, e37⟩ := cV_some e37
    refine mm_callV C (pc := 37) (d1 := 1) (As := []) (st := [.int (l4 + (2 : Int32))]) (vk := (some (.int v37))) ((S_X10_many (by omega)) e37) tT_X10_many o37 (Or.inr ⟨_, rfl, rfl⟩) wd_1570 wd_1571 wd_1572 (by omega) (by decide) rfl (by simp [mm_crf, mm_cti, mm_ctl]) rfl dX11_explains_37 ?_
    show V _ _ (.int v37 :: _) _
    refine mm_icmp_ge C (pc := 40) (tgt := 85) dX11_explains_40 (by decide) (fun hc => ?_) (fun hc => ?_)
    · replace hK := mm_ip hc hK
      refine mm_iconst C (pc := 85) (v := (1 : Int32)) dX11_explains_85 (by decide) ?_
      replace hK := rZ_some hK; obtain ⟨hv86, hK⟩ := hK
      cases hK
      exact mm_zret C (pc := 86) rfl (mm_nrZ hv86) dX11_explains_86 rfl rfl
    · replace hK := mm_in hc hK
      refine mm_aload_n C (pc := 43) 0 dX11_explains_43 rfl ?_
      refine mm_iload_n C (pc := 44) 1 dX11_explains_44 rfl ?_
      refine mm_aload_n C (pc := 45) 2 dX11_explains_45 rfl ?_
      refine mm_iload C (pc := 46) 3 dX11_explains_46 rfl ?_
      replace hK := mm_b2s hK; obtain ⟨v48, h48, e48, hK⟩ := hK
      obtain ⟨o48, e48⟩ := cV_some e48
      refine mm_callV C (pc := 48) (d1 := 2) (As := [.int l4]) (st := [.int l1, va_rf l0]) (vk := (some (.long v48))) ((S_X10_at (by omega)) e48) tT_X10_at o48 (Or.inr ⟨_, rfl, rfl⟩) wd_1575 wd_1576 wd_1577 (by omega) (by decide) rfl (by simp [mm_crf, mm_cti, mm_ctl]) rfl dX11_explains_48 ?_
      show V _ _ (.long v48 :: _) _
      refine mm_l2i C (pc := 51) dX11_explains_51 ?_
      refine mm_aload_n C (pc := 52) 2 dX11_explains_52 rfl ?_
      refine mm_iload C (pc := 53) 3 dX11_explains_53 rfl ?_
      refine mm_iconst C (pc := 55) (v := (1 : Int32)) dX11_explains_55 (by decide) ?_
      refine mm_iadd C (pc := 56) dX11_explains_56 ?_
      replace hK := mm_b2s hK; obtain ⟨v57, h57, e57, hK⟩ := hK
      obtain ⟨o57, e57⟩ := cV_some e57
      refine mm_callV C (pc := 57) (d1 := 2) (As := [.int (l4 + (1 : Int32))]) (st := [.int (v48.toInt32), .int l1, va_rf l0]) (vk := (some (.long v57))) ((S_X10_at (by omega)) e57) tT_X10_at o57 (Or.inr ⟨_, rfl, rfl⟩) wd_1575 wd_1576 wd_1577 (by omega) (by decide) rfl (by simp [mm_crf, mm_cti, mm_ctl]) rfl dX11_explains_57 ?_
      show V _ _ (.long v57 :: _) _
      refine mm_l2i C (pc := 60) dX11_explains_60 ?_
      replace hK := mm_b2s hK; obtain ⟨v61, h61, e61, hK⟩ := hK
      obtain ⟨o61, e61⟩ := cV_some e61
      refine mm_callV C (pc := 61) (d1 := 1) (As := [.int l1, .int (v48.toInt32), .int (v57.toInt32)]) (st := []) (vk := (some (.int v61))) ((S_X11_byRule (by omega)) e61) tT_X11_byRule o61 (Or.inr ⟨_, rfl, rfl⟩) wd_1890 wd_1892 wd_58 (by omega) (by decide) rfl (by simp [mm_crf, mm_cti, mm_ctl]) rfl dX11_explains_61 ?_
      show V _ _ (.int v61 :: _) _
      refine mm_i2l C (pc := 64) dX11_explains_64 ?_
      refine mm_aload_n C (pc := 65) 2 dX11_explains_65 rfl ?_
      refine mm_iload C (pc := 66) 3 dX11_explains_66 rfl ?_
      refine mm_iconst C (pc := 68) (v := (2 : Int32)) dX11_explains_68 (by decide) ?_
      refine mm_iadd C (pc := 69) dX11_explains_69 ?_
      replace hK := mm_b2s hK; obtain ⟨v70, h70, e70, hK⟩ := hK
      obtain ⟨o70, e70⟩ := cV_some e70
      refine mm_callV C (pc := 70) (d1 := 2) (As := [.int (l4 + (2 : Int32))]) (st := [.long (v61.toInt64)]) (vk := (some (.long v70))) ((S_X10_at (by omega)) e70) tT_X10_at o70 (Or.inr ⟨_, rfl, rfl⟩) wd_1575 wd_1576 wd_1577 (by omega) (by decide) rfl (by simp [mm_crf, mm_cti, mm_ctl]) rfl dX11_explains_70 ?_
      show V _ _ (.long v70 :: _) _
      refine mm_lcmp C (pc := 73) dX11_explains_73 ?_
      refine mm_if_eq C (pc := 74) (tgt := 79) dX11_explains_74 (by decide) (fun hc => ?_) (fun hc => ?_)
      · replace hK := mm_ip hc hK
        refine mm_iinc C (pc := 79) (v := (l4 + (3 : Int32))) (lv' := [(4, .int (l4 + (3 : Int32))), (0, va_rf l0), (1, .int l1), (2, va_rf l2)]) 3 dX11_explains_79 rfl rfl (by decide) rfl ?_
        refine mm_goto C (pc := 82) (tgt := 32) dX11_explains_82 (by decide) ?_
        refine mm_sub C [1, 2, 3, 0] rfl ?_
        exact ih _ _ _ _ _ hK
      · replace hK := mm_in hc hK
        refine mm_iconst C (pc := 77) (v := (0 : Int32)) dX11_explains_77 (by decide) ?_
        replace hK := rZ_some hK; obtain ⟨hv78, hK⟩ := hK
        cases hK
        exact mm_zret C (pc := 78) rfl (mm_nrZ hv78) dX11_explains_78 rfl rfl
def F_X11_explains (a0 : Option Nat) (a1 : Int32) (a2 : Option Nat) (h : MH) : Option (Int32 × MH) := (gR h a0 11 5).bind fun v1 => (gR h v1 0 2).bind fun v4 => (gI h v4 8 0).bind fun v7 => if v7 ≤ (a1 / (10 : Int32)) then (F_X11_explains_27 h) else (if (a1 - a1 / (10 : Int32) * (10 : Int32)) < v7 then (F_X11_explains_32 mm_N a0 a1 a2 (0 : Int32) h) else (F_X11_explains_27 h))
set_option maxRecDepth 20000 in
set_option maxHeartbeats 4000000 in
theorem S_X11_explains {d : Nat} (hd : 3 ≤ d) {a0 : Option Nat} {a1 : Int32} {a2 : Option Nat} {h : MH} {r : Int32} {hz : MH} (hK : F_X11_explains a0 a1 a2 h = some (r, hz)) : mm_M yX11_explains cX11_explains 5 (some .boolean) d [va_rf a0, .int a1, va_rf a2] h (.inr (some (.int r))) hz := by
  refine mm_ofV (by decide +kernel) (by simp [lg_sl, mm_crf, mm_cti, mm_ctl]) (fun V C => ?_)
  rw [show lv_args 0 [va_rf a0, .int a1, va_rf a2] = [(0, va_rf a0), (1, .int a1), (2, va_rf a2)] by simp [lv_args, mm_crf, mm_cti, mm_ctl]]
  unfold F_X11_explains at hK
  refine mm_aload_n C (pc := 0) 0 dX11_explains_0 rfl ?_
  replace hK := mm_bd hK; obtain ⟨v1, e1, hK⟩ := hK
  refine mm_getr C (pc := 1) (k := 5) inGX11 rfl (by decide) wd_850 dX11_explains_1 e1 ?_
  replace hK := mm_bd hK; obtain ⟨v4, e4, hK⟩ := hK
  refine mm_getr C (pc := 4) (k := 2) inGX0 rfl (by decide) wd_819 dX11_explains_4 e4 ?_
  replace hK := mm_bd hK; obtain ⟨v7, e7, hK⟩ := hK
  refine mm_geti C (pc := 7) (k := 0) inGX8 rfl (by decide) wd_776 dX11_explains_7 e7 ?_
  refine mm_istore_n C (pc := 10) (i := 3) (lv' := [(3, .int v7), (0, va_rf a0), (1, .int a1), (2, va_rf a2)]) dX11_explains_10 rfl (by decide) (by simp [mm_crf]) ?_
  refine mm_iload_n C (pc := 11) 2 dX11_explains_11 rfl ?_
  refine mm_bipush C (pc := 12) (v := (10 : Int32)) dX11_explains_12 (by decide) ?_
  refine mm_idiv C (pc := 14) dX11_explains_14 (by decide) ?_
  refine mm_iload_n C (pc := 15) 0 dX11_explains_15 rfl ?_
  refine mm_icmp_ge C (pc := 16) (tgt := 27) dX11_explains_16 (by decide) (fun hc => ?_) (fun hc => ?_)
  · replace hK := mm_ip hc hK
    refine mm_sub C [] rfl ?_
    exact w_X11_explains_27 hd C _ hK
  · replace hK := mm_in hc hK
    refine mm_iload_n C (pc := 19) 2 dX11_explains_19 rfl ?_
    refine mm_bipush C (pc := 20) (v := (10 : Int32)) dX11_explains_20 (by decide) ?_
    refine mm_irem C (pc := 22) dX11_explains_22 (by decide) ?_
    refine mm_iload_n C (pc := 23) 0 dX11_explains_23 rfl ?_
    refine mm_icmp_lt C (pc := 24) (tgt := 29) dX11_explains_24 (by decide) (fun hc => ?_) (fun hc => ?_)
    · replace hK := mm_ip hc hK
      refine mm_iconst C (pc := 29) (v := (0 : Int32)) dX11_explains_29 (by decide) ?_
      refine mm_istore C (pc := 30) (i := 4) (lv' := [(4, .int (0 : Int32)), (3, .int v7), (0, va_rf a0), (1, .int a1), (2, va_rf a2)]) dX11_explains_30 (by decide) rfl ?_
      refine mm_sub C [2, 3, 4, 0] rfl ?_
      exact w_X11_explains_32 hd C _ _ _ _ _ _ hK
    · replace hK := mm_in hc hK
      refine mm_sub C [] rfl ?_
      exact w_X11_explains_27 hd C _ hK
theorem wd_1884 : Cond.code yX11_needThrees cX11_needThrees 2 none ∈ lw_good := mm_wd 1884 (by decide +kernel) (by decide +kernel)
theorem tT_X11_needThrees : mm_T yX11_needThrees cX11_needThrees 2 none 1 := ⟨wd_1884, wd_142, by decide +kernel, by decide +kernel, by decide +kernel, by decide +kernel⟩
theorem wd_1881 : Cond.methodLink RX11 366 yX11_needThrees ∈ lw_good := mm_wd 1881 (by decide +kernel) (by decide +kernel)
theorem wd_1883 : Cond.instanceMethod yX11_needThrees ∈ lw_good := mm_wd 1883 (by decide +kernel) (by decide +kernel)
theorem wd_56 : Cond.selects RX11 yX11_needThrees yX11_needThrees ∈ lw_good := mm_wd 56 (by decide +kernel) (by decide +kernel)
theorem wd_1889 : Cond.code yX11_explains cX11_explains 5 (some .boolean) ∈ lw_good := mm_wd 1889 (by decide +kernel) (by decide +kernel)
theorem tT_X11_explains : mm_T yX11_explains cX11_explains 5 (some .boolean) 2 := ⟨wd_1889, wd_142, by decide +kernel, by decide +kernel, by decide +kernel, by decide +kernel⟩
theorem wd_1886 : Cond.methodLink RX11 369 yX11_explains ∈ lw_good := mm_wd 1886 (by decide +kernel) (by decide +kernel)
theorem wd_1888 : Cond.instanceMethod yX11_explains ∈ lw_good := mm_wd 1888 (by decide +kernel) (by decide +kernel)
theorem wd_57 : Cond.selects RX11 yX11_explains yX11_explains ∈ lw_good := mm_wd 57 (by decide +kernel) (by decide +kernel)
def F_X11_rules_36 (k16 : Option Nat → Option Nat → Int32 → Int32 → MH → Option ((String ⊕ Int32) × MH)) (l0 : Option Nat) (l2 : Option Nat) (l3 : Int32) (l4 : Int32) (h : MH) : Option ((String ⊕ Int32) × MH) := k16 l0 l2 l3 (l4 + (1 : Int32)) h
set_option maxRecDepth 20000 in
set_option maxHeartbeats 4000000 in
theorem w_X11_rules_36 {d : Nat} {V : Nat → List (Nat × Value) → List Value → MH → Prop} {r : String ⊕ Int32} {hz : MH} {k16 : Option Nat → Option Nat → Int32 → Int32 → MH → Option ((String ⊕ Int32) × MH)} (hd : 8 ≤ d) (C : mm_C d yX11_rules cX11_rules 5 (some .int) (mm_oi r) hz V) (q16 : ∀ (x0 : Option Nat) (x1 : Option Nat) (x2 : Int32) (x3 : Int32) (h : MH), k16 x0 x1 x2 x3 h = some (r, hz) → V 16 [(0, va_rf x0), (2, va_rf x1), (3, .int x2), (4, .int x3)] [] h) (l0 : Option Nat) (l2 : Option Nat) (l3 : Int32) (l4 : Int32) (h : MH) (hK : F_X11_rules_36 k16 l0 l2 l3 l4 h = some (r, hz)) : V 36 [(0, va_rf l0), (2, va_rf l2), (3, .int l3), (4, .int l4)] [] h := by
  unfold F_X11_rules_36 at hK
  refine mm_iinc C (pc := 36) (v := (l4 + (1 : Int32))) (lv' := [(4, .int (l4 + (1 : Int32))), (0, va_rf l0), (2, va_rf l2), (3, .int l3)]) 3 dX11_rules_36 rfl rfl (by decide) rfl ?_
  refine mm_goto C (pc := 39) (tgt := 16) dX11_rules_39 (by decide) ?_
  refine mm_sub C [1, 2, 3, 0] rfl ?_
  exact q16 _ _ _ _ _ hK
def F_X11_rules_16 : Nat → Option Nat → Option Nat → Int32 → Int32 → MH → Option ((String ⊕ Int32) × MH)
  | 0 => fun _ _ _ _ _ => none
  | n + 1 => fun l0 l2 l3 l4 h => if (80 : Int32) ≤ l4 then (some (.inr l3, h)) else (mm_b2 (cV h l0 11 (F_X11_explains l0 l4 l2 h)) fun v27 h27 => if v27 = 0 then (F_X11_rules_36 (F_X11_rules_16 n) l0 l2 l3 l4 h27) else (F_X11_rules_36 (F_X11_rules_16 n) l0 l2 (l3 + (1 : Int32)) l4 h27))
set_option maxRecDepth 20000 in
set_option maxHeartbeats 4000000 in
theorem w_X11_rules_16 {d : Nat} {V : Nat → List (Nat × Value) → List Value → MH → Prop} {r : String ⊕ Int32} {hz : MH} (hd : 8 ≤ d) (C : mm_C d yX11_rules cX11_rules 5 (some .int) (mm_oi r) hz V) : ∀ (n : Nat) (l0 : Option Nat) (l2 : Option Nat) (l3 : Int32) (l4 : Int32) (h : MH), F_X11_rules_16 n l0 l2 l3 l4 h = some (r, hz) → V 16 [(0, va_rf l0), (2, va_rf l2), (3, .int l3), (4, .int l4)] [] h := by
  intro n
  induction n with
  | zero => intro l0 l2 l3 l4 h hK; cases hK
  | succ n ih =>
    intro l0 l2 l3 l4 h hK
    replace hK : (if (80 : Int32) ≤ l4 then (some (.inr l3, h)) else (mm_b2 (cV h l0 11 (F_X11_explains l0 l4 l2 h)) fun v27 h27 => if v27 = 0 then (F_X11_rules_36 (F_X11_rules_16 n) l0 l2 l3 l4 h27) else (F_X11_rules_36 (F_X11_rules_16 n) l0 l2 (l3 + (1 : Int32)) l4 h27))) = some (r, hz) := hK
    refine mm_iload C (pc := 16) 3 dX11_rules_16 rfl ?_
    refine mm_bipush C (pc := 18) (v := (80 : Int32)) dX11_rules_18 (by decide) ?_
    refine mm_icmp_ge C (pc := 20) (tgt := 42) dX11_rules_20 (by decide) (fun hc => ?_) (fun hc => ?_)
    · replace hK := mm_ip hc hK
      refine mm_iload_n C (pc := 42) 2 dX11_rules_42 rfl ?_
      cases hK
      exact mm_iret C (pc := 43) rfl dX11_rules_43 rfl rfl
    · replace hK := mm_in hc hK
      refine mm_aload_n C (pc := 23) 0 dX11_rules_23 rfl ?_
      refine mm_iload C (pc := 24) 3 dX11_rules_24 rfl ?_
      refine mm_aload_n C (pc := 26) 1 dX11_rules_26 rfl ?_
      replace hK := mm_b2s hK; obtain ⟨v27, h27, e27, hK⟩ := hK
      obtain ⟨o27, e27⟩ := cV_some e27
      refine mm_callV C (pc := 27) (d1 := 3) (As := [.int l4, va_rf l2]) (st := []) (vk := (some (.int v27))) ((S_X11_explains (by omega)) e27) tT_X11_explains o27 (Or.inr ⟨_, rfl, rfl⟩) wd_1886 wd_1888 wd_57 (by omega) (by decide) rfl (by simp [mm_crf, mm_cti, mm_ctl]) rfl dX11_rules_27 ?_
      show V _ _ (.int v27 :: _) _
      refine mm_if_eq C (pc := 30) (tgt := 36) dX11_rules_30 (by decide) (fun hc => ?_) (fun hc => ?_)
      · replace hK := mm_ip hc hK
        exact w_X11_rules_36 hd C (fun z0 z1 z2 z3 z4 hK => ih z0 z1 z2 z3 z4 hK) _ _ _ _ _ hK
      · replace hK := mm_in hc hK
        refine mm_iinc C (pc := 33) (v := (l3 + (1 : Int32))) (lv' := [(3, .int (l3 + (1 : Int32))), (0, va_rf l0), (2, va_rf l2), (4, .int l4)]) 2 dX11_rules_33 rfl rfl (by decide) (by simp [mm_crf]) ?_
        refine mm_sub C [1, 2, 0, 3] rfl ?_
        exact w_X11_rules_36 hd C (fun z0 z1 z2 z3 z4 hK => ih z0 z1 z2 z3 z4 hK) _ _ _ _ _ hK
def F_X11_rules (a0 : Option Nat) (a1 : Int32) (h : MH) : Option ((String ⊕ Int32) × MH) := mm_b3 (cV h a0 11 (F_X11_toldTray a0 a1 h)) fun v2 h2 => mm_b3 (cV h2 a0 11 (F_X11_needThrees a0 v2 h2)) fun _ h8 => F_X11_rules_16 mm_N a0 v2 (0 : Int32) (0 : Int32) h8
set_option maxRecDepth 20000 in
set_option maxHeartbeats 4000000 in
theorem S_X11_rules {d : Nat} (hd : 8 ≤ d) {a0 : Option Nat} {a1 : Int32} {h : MH} {r : String ⊕ Int32} {hz : MH} (hK : F_X11_rules a0 a1 h = some (r, hz)) : mm_M yX11_rules cX11_rules 5 (some .int) d [va_rf a0, .int a1] h (mm_oi r) hz := by
  refine mm_ofV (by decide +kernel) (by simp [lg_sl, mm_crf, mm_cti, mm_ctl]) (fun V C => ?_)
  rw [show lv_args 0 [va_rf a0, .int a1] = [(0, va_rf a0), (1, .int a1)] by simp [lv_args, mm_crf, mm_cti, mm_ctl]]
  unfold F_X11_rules at hK
  refine mm_aload_n C (pc := 0) 0 dX11_rules_0 rfl ?_
  refine mm_iload_n C (pc := 1) 1 dX11_rules_1 rfl ?_
  replace hK := mm_b3s hK; rcases hK with ⟨E2, e2, rfl⟩ | ⟨v2, h2, e2, hK⟩
  · obtain ⟨o2, e2⟩ := cV_some e2
    exact mm_callVX C (pc := 2) (d1 := 7) (As := [.int a1]) (st := []) ((S_X11_toldTray (by omega)) e2) tT_X11_toldTray o2 (Or.inr ⟨_, rfl, rfl⟩) wd_1541 wd_1543 wd_40 (by omega) (by decide) rfl (by simp [mm_crf, mm_cti, mm_ctl]) rfl dX11_rules_2 rfl rfl
  obtain ⟨o2, e2⟩ := cV_some e2
  refine mm_callV C (pc := 2) (d1 := 7) (As := [.int a1]) (st := []) (vk := (some (va_rf v2))) ((S_X11_toldTray (by omega)) e2) tT_X11_toldTray o2 (Or.inr ⟨_, rfl, rfl⟩) wd_1541 wd_1543 wd_40 (by omega) (by decide) rfl (by simp [mm_crf, mm_cti, mm_ctl]) rfl dX11_rules_2 ?_
  show V _ _ (va_rf v2 :: _) _
  refine mm_astore_n C (pc := 5) (i := 2) (lv' := [(2, va_rf v2), (0, va_rf a0), (1, .int a1)]) dX11_rules_5 rfl (by decide) rfl ?_
  refine mm_aload_n C (pc := 6) 1 dX11_rules_6 rfl ?_
  refine mm_aload_n C (pc := 7) 0 dX11_rules_7 rfl ?_
  replace hK := mm_b3s hK; rcases hK with ⟨E8, e8, rfl⟩ | ⟨v8, h8, e8, hK⟩
  · obtain ⟨o8, e8⟩ := cV_some e8
    exact mm_callVX C (pc := 8) (d1 := 7) (As := [va_rf v2]) (st := []) ((S_X11_needThrees (by omega)) e8) tT_X11_needThrees o8 (Or.inr ⟨_, rfl, rfl⟩) wd_1881 wd_1883 wd_56 (by omega) (by decide) rfl (by simp [mm_crf, mm_cti, mm_ctl]) rfl dX11_rules_8 rfl rfl
  obtain ⟨o8, e8⟩ := cV_some e8
  refine mm_callV C (pc := 8) (d1 := 7) (As := [va_rf v2]) (st := []) (vk := none) ((S_X11_needThrees (by omega)) e8) tT_X11_needThrees o8 (Or.inr ⟨_, rfl, rfl⟩) wd_1881 wd_1883 wd_56 (by omega) (by decide) rfl (by simp [mm_crf, mm_cti, mm_ctl]) rfl dX11_rules_8 ?_
  show V _ _ [] _
  refine mm_iconst C (pc := 11) (v := (0 : Int32)) dX11_rules_11 (by decide) ?_
  refine mm_istore_n C (pc := 12) (i := 3) (lv' := [(3, .int (0 : Int32)), (2, va_rf v2), (0, va_rf a0), (1, .int a1)]) dX11_rules_12 rfl (by decide) (by simp [mm_crf]) ?_
  refine mm_iconst C (pc := 13) (v := (0 : Int32)) dX11_rules_13 (by decide) ?_
  refine mm_istore C (pc := 14) (i := 4) (lv' := [(4, .int (0 : Int32)), (3, .int (0 : Int32)), (2, va_rf v2), (0, va_rf a0), (1, .int a1)]) dX11_rules_14 (by decide) rfl ?_
  refine mm_sub C [3, 2, 1, 0] rfl ?_
  exact w_X11_rules_16 hd C _ _ _ _ _ _ hK
def F_X11_rule_61 (k32 : Option Nat → Int32 → Option Nat → Int32 → Int32 → MH → Option ((String ⊕ Int32) × MH)) (l0 : Option Nat) (l2 : Int32) (l3 : Option Nat) (l4 : Int32) (l5 : Int32) (h : MH) : Option ((String ⊕ Int32) × MH) := k32 l0 l2 l3 l4 (l5 + (1 : Int32)) h
set_option maxRecDepth 20000 in
set_option maxHeartbeats 4000000 in
theorem w_X11_rule_61 {d : Nat} {V : Nat → List (Nat × Value) → List Value → MH → Prop} {r : String ⊕ Int32} {hz : MH} {k32 : Option Nat → Int32 → Option Nat → Int32 → Int32 → MH → Option ((String ⊕ Int32) × MH)} (hd : 8 ≤ d) (C : mm_C d yX11_rule cX11_rule 6 (some .int) (mm_oi r) hz V) (q32 : ∀ (x0 : Option Nat) (x1 : Int32) (x2 : Option Nat) (x3 : Int32) (x4 : Int32) (h : MH), k32 x0 x1 x2 x3 x4 h = some (r, hz) → V 32 [(0, va_rf x0), (2, .int x1), (3, va_rf x2), (4, .int x3), (5, .int x4)] [] h) (l0 : Option Nat) (l2 : Int32) (l3 : Option Nat) (l4 : Int32) (l5 : Int32) (h : MH) (hK : F_X11_rule_61 k32 l0 l2 l3 l4 l5 h = some (r, hz)) : V 61 [(0, va_rf l0), (2, .int l2), (3, va_rf l3), (4, .int l4), (5, .int l5)] [] h := by
  unfold F_X11_rule_61 at hK
  refine mm_iinc C (pc := 61) (v := (l5 + (1 : Int32))) (lv' := [(5, .int (l5 + (1 : Int32))), (0, va_rf l0), (2, .int l2), (3, va_rf l3), (4, .int l4)]) 4 dX11_rule_61 rfl rfl (by decide) rfl ?_
  refine mm_goto C (pc := 64) (tgt := 32) dX11_rule_64 (by decide) ?_
  refine mm_sub C [1, 2, 3, 4, 0] rfl ?_
  exact q32 _ _ _ _ _ _ hK
def F_X11_rule_32 : Nat → Option Nat → Int32 → Option Nat → Int32 → Int32 → MH → Option ((String ⊕ Int32) × MH)
  | 0 => fun _ _ _ _ _ _ => none
  | n + 1 => fun l0 l2 l3 l4 l5 h => if (80 : Int32) ≤ l5 then (some (.inr ((-1) : Int32), h)) else (mm_b2 (cV h l0 11 (F_X11_explains l0 l5 l3 h)) fun v43 h43 => if v43 = 0 then (F_X11_rule_61 (F_X11_rule_32 n) l0 l2 l3 l4 l5 h43) else (if l4 = l2 then (some (.inr l5, h43)) else (F_X11_rule_61 (F_X11_rule_32 n) l0 l2 l3 (l4 + (1 : Int32)) l5 h43)))
set_option maxRecDepth 20000 in
set_option maxHeartbeats 4000000 in
theorem w_X11_rule_32 {d : Nat} {V : Nat → List (Nat × Value) → List Value → MH → Prop} {r : String ⊕ Int32} {hz : MH} (hd : 8 ≤ d) (C : mm_C d yX11_rule cX11_rule 6 (some .int) (mm_oi r) hz V) : ∀ (n : Nat) (l0 : Option Nat) (l2 : Int32) (l3 : Option Nat) (l4 : Int32) (l5 : Int32) (h : MH), F_X11_rule_32 n l0 l2 l3 l4 l5 h = some (r, hz) → V 32 [(0, va_rf l0), (2, .int l2), (3, va_rf l3), (4, .int l4), (5, .int l5)] [] h := by
  intro n
  induction n with
  | zero => intro l0 l2 l3 l4 l5 h hK; cases hK
  | succ n ih =>
    intro l0 l2 l3 l4 l5 h hK
    replace hK : (if (80 : Int32) ≤ l5 then (some (.inr ((-1) : Int32), h)) else (mm_b2 (cV h l0 11 (F_X11_explains l0 l5 l3 h)) fun v43 h43 => if v43 = 0 then (F_X11_rule_61 (F_X11_rule_32 n) l0 l2 l3 l4 l5 h43) else (if l4 = l2 then (some (.inr l5, h43)) else (F_X11_rule_61 (F_X11_rule_32 n) l0 l2 l3 (l4 + (1 : Int32)) l5 h43)))) = some (r, hz) := hK
    refine mm_iload C (pc := 32) 4 dX11_rule_32 rfl ?_
    refine mm_bipush C (pc := 34) (v := (80 : Int32)) dX11_rule_34 (by decide) ?_
    refine mm_icmp_ge C (pc := 36) (tgt := 67) dX11_rule_36 (by decide) (fun hc => ?_) (fun hc => ?_)
    · replace hK := mm_ip hc hK
      refine mm_iconst C (pc := 67) (v := ((-1) : Int32)) dX11_rule_67 (by decide) ?_
      cases hK
      exact mm_iret C (pc := 68) rfl dX11_rule_68 rfl rfl
    · replace hK := mm_in hc hK
      refine mm_aload_n C (pc := 39) 0 dX11_rule_39 rfl ?_
      refine mm_iload C (pc := 40) 4 dX11_rule_40 rfl ?_
      refine mm_aload_n C (pc := 42) 2 dX11_rule_42 rfl ?_
      replace hK := mm_b2s hK; obtain ⟨v43, h43, e43, hK⟩ := hK
      obtain ⟨o43, e43⟩ := cV_some e43
      refine mm_callV C (pc := 43) (d1 := 3) (As := [.int l5, va_rf l3]) (st := []) (vk := (some (.int v43))) ((S_X11_explains (by omega)) e43) tT_X11_explains o43 (Or.inr ⟨_, rfl, rfl⟩) wd_1886 wd_1888 wd_57 (by omega) (by decide) rfl (by simp [mm_crf, mm_cti, mm_ctl]) rfl dX11_rule_43 ?_
      show V _ _ (.int v43 :: _) _
      refine mm_if_eq C (pc := 46) (tgt := 61) dX11_rule_46 (by decide) (fun hc => ?_) (fun hc => ?_)
      · replace hK := mm_ip hc hK
        exact w_X11_rule_61 hd C (fun z0 z1 z2 z3 z4 z5 hK => ih z0 z1 z2 z3 z4 z5 hK) _ _ _ _ _ _ hK
      · replace hK := mm_in hc hK
        refine mm_iload C (pc := 49) 3 dX11_rule_49 rfl ?_
        refine mm_iload_n C (pc := 51) 1 dX11_rule_51 rfl ?_
        refine mm_icmp_ne C (pc := 52) (tgt := 58) dX11_rule_52 (by decide) (fun hc => ?_) (fun hc => ?_)
        · replace hK := mm_in hc hK
          refine mm_iinc C (pc := 58) (v := (l4 + (1 : Int32))) (lv' := [(4, .int (l4 + (1 : Int32))), (0, va_rf l0), (2, .int l2), (3, va_rf l3), (5, .int l5)]) 3 dX11_rule_58 rfl rfl (by decide) (by simp [mm_crf]) ?_
          refine mm_sub C [1, 2, 3, 0, 4] rfl ?_
          exact w_X11_rule_61 hd C (fun z0 z1 z2 z3 z4 z5 hK => ih z0 z1 z2 z3 z4 z5 hK) _ _ _ _ _ _ hK
        · replace hK := mm_ip hc hK
          refine mm_iload C (pc := 55) 4 dX11_rule_55 rfl ?_
          cases hK
          exact mm_iret C (pc := 57) rfl dX11_rule_57 rfl rfl
def F_X11_rule (a0 : Option Nat) (a1 : Int32) (a2 : Int32) (h : MH) : Option ((String ⊕ Int32) × MH) := mm_b3 (cV h a0 11 (F_X11_toldTray a0 a1 h)) fun v2 h2 => mm_b3 (cV h2 a0 11 (F_X11_needThrees a0 v2 h2)) fun _ h8 => if 0 ≤ a2 then (F_X11_rule_32 mm_N a0 a2 v2 (0 : Int32) (0 : Int32) h8) else ((tH h8).bind fun h15 => some (.inl "java/lang/IllegalArgumentException", h15))
set_option maxRecDepth 20000 in
set_option maxHeartbeats 4000000 in
theorem S_X11_rule {d : Nat} (hd : 8 ≤ d) {a0 : Option Nat} {a1 : Int32} {a2 : Int32} {h : MH} {r : String ⊕ Int32} {hz : MH} (hK : F_X11_rule a0 a1 a2 h = some (r, hz)) : mm_M yX11_rule cX11_rule 6 (some .int) d [va_rf a0, .int a1, .int a2] h (mm_oi r) hz := by
  refine mm_ofV (by decide +kernel) (by simp [lg_sl, mm_crf, mm_cti, mm_ctl]) (fun V C => ?_)
  rw [show lv_args 0 [va_rf a0, .int a1, .int a2] = [(0, va_rf a0), (1, .int a1), (2, .int a2)] by simp [lv_args, mm_crf, mm_cti, mm_ctl]]
  unfold F_X11_rule at hK
  refine mm_aload_n C (pc := 0) 0 dX11_rule_0 rfl ?_
  refine mm_iload_n C (pc := 1) 1 dX11_rule_1 rfl ?_
  replace hK := mm_b3s hK; rcases hK with ⟨E2, e2, rfl⟩ | ⟨v2, h2, e2, hK⟩
  · obtain ⟨o2, e2⟩ := cV_some e2
    exact mm_callVX C (pc := 2) (d1 := 7) (As := [.int a1]) (st := []) ((S_X11_toldTray (by omega)) e2) tT_X11_toldTray o2 (Or.inr ⟨_, rfl, rfl⟩) wd_1541 wd_1543 wd_40 (by omega) (by decide) rfl (by simp [mm_crf, mm_cti, mm_ctl]) rfl dX11_rule_2 rfl rfl
  obtain ⟨o2, e2⟩ := cV_some e2
  refine mm_callV C (pc := 2) (d1 := 7) (As := [.int a1]) (st := []) (vk := (some (va_rf v2))) ((S_X11_toldTray (by omega)) e2) tT_X11_toldTray o2 (Or.inr ⟨_, rfl, rfl⟩) wd_1541 wd_1543 wd_40 (by omega) (by decide) rfl (by simp [mm_crf, mm_cti, mm_ctl]) rfl dX11_rule_2 ?_
  show V _ _ (va_rf v2 :: _) _
  refine mm_astore_n C (pc := 5) (i := 3) (lv' := [(3, va_rf v2), (0, va_rf a0), (1, .int a1), (2, .int a2)]) dX11_rule_5 rfl (by decide) rfl ?_
  refine mm_aload_n C (pc := 6) 1 dX11_rule_6 rfl ?_
  refine mm_aload_n C (pc := 7) 0 dX11_rule_7 rfl ?_
  replace hK := mm_b3s hK; rcases hK with ⟨E8, e8, rfl⟩ | ⟨v8, h8, e8, hK⟩
  · obtain ⟨o8, e8⟩ := cV_some e8
    exact mm_callVX C (pc := 8) (d1 := 7) (As := [va_rf v2]) (st := []) ((S_X11_needThrees (by omega)) e8) tT_X11_needThrees o8 (Or.inr ⟨_, rfl, rfl⟩) wd_1881 wd_1883 wd_56 (by omega) (by decide) rfl (by simp [mm_crf, mm_cti, mm_ctl]) rfl dX11_rule_8 rfl rfl
  obtain ⟨o8, e8⟩ := cV_some e8
  refine mm_callV C (pc := 8) (d1 := 7) (As := [va_rf v2]) (st := []) (vk := none) ((S_X11_needThrees (by omega)) e8) tT_X11_needThrees o8 (Or.inr ⟨_, rfl, rfl⟩) wd_1881 wd_1883 wd_56 (by omega) (by decide) rfl (by simp [mm_crf, mm_cti, mm_ctl]) rfl dX11_rule_8 ?_
  show V _ _ [] _
  refine mm_iload_n C (pc := 11) 3 dX11_rule_11 rfl ?_
  refine mm_if_ge C (pc := 12) (tgt := 26) dX11_rule_12 (by decide) (fun hc => ?_) (fun hc => ?_)
  · replace hK := mm_ip hc hK
    refine mm_iconst C (pc := 26) (v := (0 : Int32)) dX11_rule_26 (by decide) ?_
    refine mm_istore C (pc := 27) (i := 4) (lv' := [(4, .int (0 : Int32)), (3, va_rf v2), (0, va_rf a0), (1, .int a1), (2, .int a2)]) dX11_rule_27 (by decide) (by simp [mm_crf]) ?_
    refine mm_iconst C (pc := 29) (v := (0 : Int32)) dX11_rule_29 (by decide) ?_
    refine mm_istore C (pc := 30) (i := 5) (lv' := [(5, .int (0 : Int32)), (4, .int (0 : Int32)), (3, va_rf v2), (0, va_rf a0), (1, .int a1), (2, .int a2)]) dX11_rule_30 (by decide) rfl ?_
    refine mm_sub C [3, 5, 2, 1, 0] rfl ?_
    exact w_X11_rule_32 hd C _ _ _ _ _ _ _ hK
  · replace hK := mm_in hc hK
    replace hK := mm_bd hK; obtain ⟨h15, e15, hK⟩ := hK
    cases hK
    exact mm_throwW C (pc := 15) (i := 30) tW_X11_264_268 (by rfl) dX11_rule_15 dX11_rule_18 dX11_rule_19 dX11_rule_22 dX11_rule_25 (by omega) (by simp [mm_crf, mm_cti, mm_ctl]) rfl e15
theorem wd_1913 : Cond.methodLink RX11 379 yJ7_fill_53178 ∈ lw_good := mm_wd 1913 (by decide +kernel) (by decide +kernel)
theorem wd_1914 : Cond.methodLink RX11 388 yJ9_max_7cf53 ∈ lw_good := mm_wd 1914 (by decide +kernel) (by decide +kernel)
def F_X11_mostToOneLine_91 (k13 : Option Nat → Option Nat → Int32 → Int32 → Int32 → MH → Option (Int32 × MH)) (l0 : Option Nat) (l1 : Option Nat) (l2 : Int32) (l3 : Int32) (l4 : Int32) (h : MH) : Option (Int32 × MH) := k13 l0 l1 l2 l3 (l4 + (1 : Int32)) h
set_option maxRecDepth 20000 in
set_option maxHeartbeats 4000000 in
theorem w_X11_mostToOneLine_91 {d : Nat} {V : Nat → List (Nat × Value) → List Value → MH → Prop} {r : Int32} {hz : MH} {k13 : Option Nat → Option Nat → Int32 → Int32 → Int32 → MH → Option (Int32 × MH)} (hd : 4 ≤ d) (C : mm_C d yX11_mostToOneLine cX11_mostToOneLine 6 (some .int) (.inr (some (.int r))) hz V) (q13 : ∀ (x0 : Option Nat) (x1 : Option Nat) (x2 : Int32) (x3 : Int32) (x4 : Int32) (h : MH), k13 x0 x1 x2 x3 x4 h = some (r, hz) → V 13 [(0, va_rf x0), (1, va_rf x1), (2, .int x2), (3, .int x3), (4, .int x4)] [] h) (l0 : Option Nat) (l1 : Option Nat) (l2 : Int32) (l3 : Int32) (l4 : Int32) (h : MH) (hK : F_X11_mostToOneLine_91 k13 l0 l1 l2 l3 l4 h = some (r, hz)) : V 91 [(0, va_rf l0), (1, va_rf l1), (2, .int l2), (3, .int l3), (4, .int l4)] [] h := by
  unfold F_X11_mostToOneLine_91 at hK
  refine mm_iinc C (pc := 91) (v := (l4 + (1 : Int32))) (lv' := [(4, .int (l4 + (1 : Int32))), (0, va_rf l0), (1, va_rf l1), (2, .int l2), (3, .int l3)]) 4 dX11_mostToOneLine_91 rfl rfl (by decide) rfl ?_
  refine mm_goto C (pc := 94) (tgt := 13) dX11_mostToOneLine_94 (by decide) ?_
  refine mm_sub C [1, 2, 3, 4, 0] rfl ?_
  exact q13 _ _ _ _ _ _ hK
def F_X11_mostToOneLine_13 : Nat → Option Nat → Option Nat → Int32 → Int32 → Int32 → MH → Option (Int32 × MH)
  | 0 => fun _ _ _ _ _ _ => none
  | n + 1 => fun l0 l1 l2 l3 l4 h => if (80 : Int32) ≤ l4 then (some (l3, h)) else (mm_b2 (cV h l0 11 (F_X11_explains l0 l4 l1 h)) fun v24 h24 => if v24 = 0 then (F_X11_mostToOneLine_91 (F_X11_mostToOneLine_13 n) l0 l1 l2 l3 l4 h24) else ((gR h24 l0 11 5).bind fun v34 => mm_b2 (cV h24 v34 0 (F_X0_fact v34 l2 (0 : Int32) h24)) fun v39 h39 => (gR h39 l0 11 5).bind fun v43 => mm_b2 (cV h39 v43 0 (F_X0_fact v43 l2 (1 : Int32) h39)) fun v48 h48 => mm_b2 (cV h48 l0 11 (F_X11_byRule l0 l4 v39 v48 h48)) fun v51 h51 => if v51 < 0 then (F_X11_mostToOneLine_91 (F_X11_mostToOneLine_13 n) l0 l1 l2 l3 l4 h51) else (if (8 : Int32) ≤ v51 then (F_X11_mostToOneLine_91 (F_X11_mostToOneLine_13 n) l0 l1 l2 l3 l4 h51) else ((gR h51 l0 11 15).bind fun v69 => (aI h51 v69 0 v51).bind fun v75 => (sI h51 v69 0 v51 (v75 + (1 : Int32))).bind fun h78 => (gR h78 l0 11 15).bind fun v81 => (aI h78 v81 0 v51).bind fun v86 => F_X11_mostToOneLine_91 (F_X11_mostToOneLine_13 n) l0 l1 l2 (mxI l3 v86) l4 h78))))
set_option maxRecDepth 20000 in
set_option maxHeartbeats 4000000 in
theorem w_X11_mostToOneLine_13 {d : Nat} {V : Nat → List (Nat × Value) → List Value → MH → Prop} {r : Int32} {hz : MH} (hd : 4 ≤ d) (C : mm_C d yX11_mostToOneLine cX11_mostToOneLine 6 (some .int) (.inr (some (.int r))) hz V) : ∀ (n : Nat) (l0 : Option Nat) (l1 : Option Nat) (l2 : Int32) (l3 : Int32) (l4 : Int32) (h : MH), F_X11_mostToOneLine_13 n l0 l1 l2 l3 l4 h = some (r, hz) → V 13 [(0, va_rf l0), (1, va_rf l1), (2, .int l2), (3, .int l3), (4, .int l4)] [] h := by
  intro n
  induction n with
  | zero => intro l0 l1 l2 l3 l4 h hK; cases hK
  | succ n ih =>
    intro l0 l1 l2 l3 l4 h hK
    replace hK : (if (80 : Int32) ≤ l4 then (some (l3, h)) else (mm_b2 (cV h l0 11 (F_X11_explains l0 l4 l1 h)) fun v24 h24 => if v24 = 0 then (F_X11_mostToOneLine_91 (F_X11_mostToOneLine_13 n) l0 l1 l2 l3 l4 h24) else ((gR h24 l0 11 5).bind fun v34 => mm_b2 (cV h24 v34 0 (F_X0_fact v34 l2 (0 : Int32) h24)) fun v39 h39 => (gR h39 l0 11 5).bind fun v43 => mm_b2 (cV h39 v43 0 (F_X0_fact v43 l2 (1 : Int32) h39)) fun v48 h48 => mm_b2 (cV h48 l0 11 (F_X11_byRule l0 l4 v39 v48 h48)) fun v51 h51 => if v51 < 0 then (F_X11_mostToOneLine_91 (F_X11_mostToOneLine_13 n) l0 l1 l2 l3 l4 h51) else (if (8 : Int32) ≤ v51 then (F_X11_mostToOneLine_91 (F_X11_mostToOneLine_13 n) l0 l1 l2 l3 l4 h51) else ((gR h51 l0 11 15).bind fun v69 => (aI h51 v69 0 v51).bind fun v75 => (sI h51 v69 0 v51 (v75 + (1 : Int32))).bind fun h78 => (gR h78 l0 11 15).bind fun v81 => (aI h78 v81 0 v51).bind fun v86 => F_X11_mostToOneLine_91 (F_X11_mostToOneLine_13 n) l0 l1 l2 (mxI l3 v86) l4 h78))))) = some (r, hz) := hK
    refine mm_iload C (pc := 13) 4 dX11_mostToOneLine_13 rfl ?_
    refine mm_bipush C (pc := 15) (v := (80 : Int32)) dX11_mostToOneLine_15 (by decide) ?_
    refine mm_icmp_ge C (pc := 17) (tgt := 97) dX11_mostToOneLine_17 (by decide) (fun hc => ?_) (fun hc => ?_)
    · replace hK := mm_ip hc hK
      refine mm_iload_n C (pc := 97) 3 dX11_mostToOneLine_97 rfl ?_
      cases hK
      exact mm_iret C (pc := 98) rfl dX11_mostToOneLine_98 rfl rfl
    · replace hK := mm_in hc hK
      refine mm_aload_n C (pc := 20) 0 dX11_mostToOneLine_20 rfl ?_
      refine mm_iload C (pc := 21) 4 dX11_mostToOneLine_21 rfl ?_
      refine mm_aload_n C (pc := 23) 1 dX11_mostToOneLine_23 rfl ?_
      replace hK := mm_b2s hK; obtain ⟨v24, h24, e24, hK⟩ := hK
      obtain ⟨o24, e24⟩ := cV_some e24
      refine mm_callV C (pc := 24) (d1 := 3) (As := [.int l4, va_rf l1]) (st := []) (vk := (some (.int v24))) ((S_X11_explains (by omega)) e24) tT_X11_explains o24 (Or.inr ⟨_, rfl, rfl⟩) wd_1886 wd_1888 wd_57 (by omega) (by decide) rfl (by simp [mm_crf, mm_cti, mm_ctl]) rfl dX11_mostToOneLine_24 ?_
      show V _ _ (.int v24 :: _) _
      refine mm_if_eq C (pc := 27) (tgt := 91) dX11_mostToOneLine_27 (by decide) (fun hc => ?_) (fun hc => ?_)
      · replace hK := mm_ip hc hK
        exact w_X11_mostToOneLine_91 hd C (fun z0 z1 z2 z3 z4 z5 hK => ih z0 z1 z2 z3 z4 z5 hK) _ _ _ _ _ _ hK
      · replace hK := mm_in hc hK
        refine mm_aload_n C (pc := 30) 0 dX11_mostToOneLine_30 rfl ?_
        refine mm_iload C (pc := 31) 4 dX11_mostToOneLine_31 rfl ?_
        refine mm_aload_n C (pc := 33) 0 dX11_mostToOneLine_33 rfl ?_
        replace hK := mm_bd hK; obtain ⟨v34, e34, hK⟩ := hK
        refine mm_getr C (pc := 34) (k := 5) inGX11 rfl (by decide) wd_850 dX11_mostToOneLine_34 e34 ?_
        refine mm_iload_n C (pc := 37) 2 dX11_mostToOneLine_37 rfl ?_
        refine mm_iconst C (pc := 38) (v := (0 : Int32)) dX11_mostToOneLine_38 (by decide) ?_
        replace hK := mm_b2s hK; obtain ⟨v39, h39, e39, hK⟩ := hK
        obtain ⟨o39, e39⟩ := cV_some e39
        refine mm_callV C (pc := 39) (d1 := 1) (As := [.int l2, .int (0 : Int32)]) (st := [.int l4, va_rf l0]) (vk := (some (.int v39))) ((S_X0_fact (by omega)) e39) tT_X0_fact o39 (Or.inr ⟨_, rfl, rfl⟩) wd_1077 wd_961 wd_962 (by omega) (by decide) rfl (by simp [mm_crf, mm_cti, mm_ctl]) rfl dX11_mostToOneLine_39 ?_
        show V _ _ (.int v39 :: _) _
        refine mm_aload_n C (pc := 42) 0 dX11_mostToOneLine_42 rfl ?_
        replace hK := mm_bd hK; obtain ⟨v43, e43, hK⟩ := hK
        refine mm_getr C (pc := 43) (k := 5) inGX11 rfl (by decide) wd_850 dX11_mostToOneLine_43 e43 ?_
        refine mm_iload_n C (pc := 46) 2 dX11_mostToOneLine_46 rfl ?_
        refine mm_iconst C (pc := 47) (v := (1 : Int32)) dX11_mostToOneLine_47 (by decide) ?_
        replace hK := mm_b2s hK; obtain ⟨v48, h48, e48, hK⟩ := hK
        obtain ⟨o48, e48⟩ := cV_some e48
        refine mm_callV C (pc := 48) (d1 := 1) (As := [.int l2, .int (1 : Int32)]) (st := [.int v39, .int l4, va_rf l0]) (vk := (some (.int v48))) ((S_X0_fact (by omega)) e48) tT_X0_fact o48 (Or.inr ⟨_, rfl, rfl⟩) wd_1077 wd_961 wd_962 (by omega) (by decide) rfl (by simp [mm_crf, mm_cti, mm_ctl]) rfl dX11_mostToOneLine_48 ?_
        show V _ _ (.int v48 :: _) _
        replace hK := mm_b2s hK; obtain ⟨v51, h51, e51, hK⟩ := hK
        obtain ⟨o51, e51⟩ := cV_some e51
        refine mm_callV C (pc := 51) (d1 := 1) (As := [.int l4, .int v39, .int v48]) (st := []) (vk := (some (.int v51))) ((S_X11_byRule (by omega)) e51) tT_X11_byRule o51 (Or.inr ⟨_, rfl, rfl⟩) wd_1890 wd_1892 wd_58 (by omega) (by decide) rfl (by simp [mm_crf, mm_cti, mm_ctl]) rfl dX11_mostToOneLine_51 ?_
        show V _ _ (.int v51 :: _) _
        refine mm_istore C (pc := 54) (i := 5) (lv' := [(5, .int v51), (0, va_rf l0), (1, va_rf l1), (2, .int l2), (3, .int l3), (4, .int l4)]) dX11_mostToOneLine_54 (by decide) rfl ?_
        refine mm_iload C (pc := 56) 0 dX11_mostToOneLine_56 rfl ?_
        refine mm_if_lt C (pc := 58) (tgt := 91) dX11_mostToOneLine_58 (by decide) (fun hc => ?_) (fun hc => ?_)
        · replace hK := mm_ip hc hK
          refine mm_sub C [1, 2, 3, 4, 5] rfl ?_
          exact w_X11_mostToOneLine_91 hd C (fun z0 z1 z2 z3 z4 z5 hK => ih z0 z1 z2 z3 z4 z5 hK) _ _ _ _ _ _ hK
        · replace hK := mm_in hc hK
          refine mm_iload C (pc := 61) 0 dX11_mostToOneLine_61 rfl ?_
          refine mm_bipush C (pc := 63) (v := (8 : Int32)) dX11_mostToOneLine_63 (by decide) ?_
          refine mm_icmp_ge C (pc := 65) (tgt := 91) dX11_mostToOneLine_65 (by decide) (fun hc => ?_) (fun hc => ?_)
          · replace hK := mm_ip hc hK
            refine mm_sub C [1, 2, 3, 4, 5] rfl ?_
            exact w_X11_mostToOneLine_91 hd C (fun z0 z1 z2 z3 z4 z5 hK => ih z0 z1 z2 z3 z4 z5 hK) _ _ _ _ _ _ hK
          · replace hK := mm_in hc hK
            refine mm_aload_n C (pc := 68) 1 dX11_mostToOneLine_68 rfl ?_
            replace hK := mm_bd hK; obtain ⟨v69, e69, hK⟩ := hK
            refine mm_getr C (pc := 69) (k := 15) inGX11 rfl (by decide) wd_860 dX11_mostToOneLine_69 e69 ?_
            refine mm_iload C (pc := 72) 0 dX11_mostToOneLine_72 rfl ?_
            refine mm_dup2 C (pc := 74) dX11_mostToOneLine_74 rfl mm_crf ?_
            replace hK := mm_bd hK; obtain ⟨v75, e75, hK⟩ := hK
            refine mm_iald C (pc := 75) dX11_mostToOneLine_75 e75 ?_
            refine mm_iconst C (pc := 76) (v := (1 : Int32)) dX11_mostToOneLine_76 (by decide) ?_
            refine mm_iadd C (pc := 77) dX11_mostToOneLine_77 ?_
            replace hK := mm_bd hK; obtain ⟨h78, e78, hK⟩ := hK
            refine mm_iast C (pc := 78) dX11_mostToOneLine_78 e78 ?_
            refine mm_iload_n C (pc := 79) 4 dX11_mostToOneLine_79 rfl ?_
            refine mm_aload_n C (pc := 80) 1 dX11_mostToOneLine_80 rfl ?_
            replace hK := mm_bd hK; obtain ⟨v81, e81, hK⟩ := hK
            refine mm_getr C (pc := 81) (k := 15) inGX11 rfl (by decide) wd_860 dX11_mostToOneLine_81 e81 ?_
            refine mm_iload C (pc := 84) 0 dX11_mostToOneLine_84 rfl ?_
            replace hK := mm_bd hK; obtain ⟨v86, e86, hK⟩ := hK
            refine mm_iald C (pc := 86) dX11_mostToOneLine_86 e86 ?_
            refine mm_mmax C (pc := 87) wd_1914 wd_412 wd_152 wd_413 (by omega) (by simp [mm_crf, mm_cti, mm_ctl]) dX11_mostToOneLine_87 ?_
            refine mm_istore_n C (pc := 90) (i := 3) (lv' := [(3, .int (mxI l3 v86)), (5, .int v51), (0, va_rf l0), (1, va_rf l1), (2, .int l2), (4, .int l4)]) dX11_mostToOneLine_90 rfl (by decide) rfl ?_
            refine mm_sub C [2, 3, 4, 0, 5] rfl ?_
            exact w_X11_mostToOneLine_91 hd C (fun z0 z1 z2 z3 z4 z5 hK => ih z0 z1 z2 z3 z4 z5 hK) _ _ _ _ _ _ hK
def F_X11_mostToOneLine (a0 : Option Nat) (a1 : Option Nat) (a2 : Int32) (h : MH) : Option (Int32 × MH) := (gR h a0 11 15).bind fun v1 => (F_J7_fill_53178 v1 (0 : Int32) h).bind fun h5 => F_X11_mostToOneLine_13 mm_N a0 a1 a2 (0 : Int32) (0 : Int32) h5
set_option maxRecDepth 20000 in
set_option maxHeartbeats 4000000 in
theorem S_X11_mostToOneLine {d : Nat} (hd : 4 ≤ d) {a0 : Option Nat} {a1 : Option Nat} {a2 : Int32} {h : MH} {r : Int32} {hz : MH} (hK : F_X11_mostToOneLine a0 a1 a2 h = some (r, hz)) : mm_M yX11_mostToOneLine cX11_mostToOneLine 6 (some .int) d [va_rf a0, va_rf a1, .int a2] h (.inr (some (.int r))) hz := by
  refine mm_ofV (by decide +kernel) (by simp [lg_sl, mm_crf, mm_cti, mm_ctl]) (fun V C => ?_)
  rw [show lv_args 0 [va_rf a0, va_rf a1, .int a2] = [(0, va_rf a0), (1, va_rf a1), (2, .int a2)] by simp [lv_args, mm_crf, mm_cti, mm_ctl]]
  unfold F_X11_mostToOneLine at hK
  refine mm_aload_n C (pc := 0) 0 dX11_mostToOneLine_0 rfl ?_
  replace hK := mm_bd hK; obtain ⟨v1, e1, hK⟩ := hK
  refine mm_getr C (pc := 1) (k := 15) inGX11 rfl (by decide) wd_860 dX11_mostToOneLine_1 e1 ?_
  refine mm_iconst C (pc := 4) (v := (0 : Int32)) dX11_mostToOneLine_4 (by decide) ?_
  replace hK := mm_bd hK; obtain ⟨h5, e5, hK⟩ := hK
  refine mm_callS C (pc := 5) (d1 := 1) (As := [va_rf v1, .int (0 : Int32)]) (st := []) (vk := none) ((S_J7_fill_53178 (by omega)) e5) tT_J7_fill_53178 wd_1913 wd_814 (by omega) (by decide) rfl (by simp [mm_crf, mm_cti, mm_ctl]) rfl dX11_mostToOneLine_5 ?_
  show V _ _ [] _
  refine mm_iconst C (pc := 8) (v := (0 : Int32)) dX11_mostToOneLine_8 (by decide) ?_
  refine mm_istore_n C (pc := 9) (i := 3) (lv' := [(3, .int (0 : Int32)), (0, va_rf a0), (1, va_rf a1), (2, .int a2)]) dX11_mostToOneLine_9 rfl (by decide) rfl ?_
  refine mm_iconst C (pc := 10) (v := (0 : Int32)) dX11_mostToOneLine_10 (by decide) ?_
  refine mm_istore C (pc := 11) (i := 4) (lv' := [(4, .int (0 : Int32)), (3, .int (0 : Int32)), (0, va_rf a0), (1, va_rf a1), (2, .int a2)]) dX11_mostToOneLine_11 (by decide) rfl ?_
  refine mm_sub C [2, 3, 4, 1, 0] rfl ?_
  exact w_X11_mostToOneLine_13 hd C _ _ _ _ _ _ _ hK
theorem wd_1912 : Cond.code yX11_mostToOneLine cX11_mostToOneLine 6 (some .int) ∈ lw_good := mm_wd 1912 (by decide +kernel) (by decide +kernel)
theorem tT_X11_mostToOneLine : mm_T yX11_mostToOneLine cX11_mostToOneLine 6 (some .int) 2 := ⟨wd_1912, wd_142, by decide +kernel, by decide +kernel, by decide +kernel, by decide +kernel⟩
theorem wd_1909 : Cond.methodLink RX11 375 yX11_mostToOneLine ∈ lw_good := mm_wd 1909 (by decide +kernel) (by decide +kernel)
theorem wd_1911 : Cond.instanceMethod yX11_mostToOneLine ∈ lw_good := mm_wd 1911 (by decide +kernel) (by decide +kernel)
theorem wd_59 : Cond.selects RX11 yX11_mostToOneLine yX11_mostToOneLine ∈ lw_good := mm_wd 59 (by decide +kernel) (by decide +kernel)
def F_X11_ask_64 (k19 : Option Nat → Option Nat → Int32 → Int32 → Int32 → MH → Option ((String ⊕ Int32) × MH)) (l0 : Option Nat) (l2 : Option Nat) (l3 : Int32) (l4 : Int32) (l5 : Int32) (h : MH) : Option ((String ⊕ Int32) × MH) := k19 l0 l2 l3 l4 (l5 + (1 : Int32)) h
set_option maxRecDepth 20000 in
set_option maxHeartbeats 4000000 in
theorem w_X11_ask_64 {d : Nat} {V : Nat → List (Nat × Value) → List Value → MH → Prop} {r : String ⊕ Int32} {hz : MH} {k19 : Option Nat → Option Nat → Int32 → Int32 → Int32 → MH → Option ((String ⊕ Int32) × MH)} (hd : 8 ≤ d) (C : mm_C d yX11_ask cX11_ask 7 (some .int) (mm_oi r) hz V) (q19 : ∀ (x0 : Option Nat) (x1 : Option Nat) (x2 : Int32) (x3 : Int32) (x4 : Int32) (h : MH), k19 x0 x1 x2 x3 x4 h = some (r, hz) → V 19 [(0, va_rf x0), (2, va_rf x1), (3, .int x2), (4, .int x3), (5, .int x4)] [] h) (l0 : Option Nat) (l2 : Option Nat) (l3 : Int32) (l4 : Int32) (l5 : Int32) (h : MH) (hK : F_X11_ask_64 k19 l0 l2 l3 l4 l5 h = some (r, hz)) : V 64 [(0, va_rf l0), (2, va_rf l2), (3, .int l3), (4, .int l4), (5, .int l5)] [] h := by
  unfold F_X11_ask_64 at hK
  refine mm_iinc C (pc := 64) (v := (l5 + (1 : Int32))) (lv' := [(5, .int (l5 + (1 : Int32))), (0, va_rf l0), (2, va_rf l2), (3, .int l3), (4, .int l4)]) 4 dX11_ask_64 rfl rfl (by decide) rfl ?_
  refine mm_goto C (pc := 67) (tgt := 19) dX11_ask_67 (by decide) ?_
  refine mm_sub C [1, 2, 3, 4, 0] rfl ?_
  exact q19 _ _ _ _ _ _ hK
def F_X11_ask_57 (k19 : Option Nat → Option Nat → Int32 → Int32 → Int32 → MH → Option ((String ⊕ Int32) × MH)) (l0 : Option Nat) (l2 : Option Nat) (l5 : Int32) (l6 : Int32) (h : MH) : Option ((String ⊕ Int32) × MH) := F_X11_ask_64 k19 l0 l2 l5 l6 l5 h
set_option maxRecDepth 20000 in
set_option maxHeartbeats 4000000 in
theorem w_X11_ask_57 {d : Nat} {V : Nat → List (Nat × Value) → List Value → MH → Prop} {r : String ⊕ Int32} {hz : MH} {k19 : Option Nat → Option Nat → Int32 → Int32 → Int32 → MH → Option ((String ⊕ Int32) × MH)} (hd : 8 ≤ d) (C : mm_C d yX11_ask cX11_ask 7 (some .int) (mm_oi r) hz V) (q19 : ∀ (x0 : Option Nat) (x1 : Option Nat) (x2 : Int32) (x3 : Int32) (x4 : Int32) (h : MH), k19 x0 x1 x2 x3 x4 h = some (r, hz) → V 19 [(0, va_rf x0), (2, va_rf x1), (3, .int x2), (4, .int x3), (5, .int x4)] [] h) (l0 : Option Nat) (l2 : Option Nat) (l5 : Int32) (l6 : Int32) (h : MH) (hK : F_X11_ask_57 k19 l0 l2 l5 l6 h = some (r, hz)) : V 57 [(0, va_rf l0), (2, va_rf l2), (5, .int l5), (6, .int l6)] [] h := by
  unfold F_X11_ask_57 at hK
  refine mm_iload C (pc := 57) 2 dX11_ask_57 rfl ?_
  refine mm_istore_n C (pc := 59) (i := 3) (lv' := [(3, .int l5), (0, va_rf l0), (2, va_rf l2), (5, .int l5), (6, .int l6)]) dX11_ask_59 rfl (by decide) (by simp [mm_crf]) ?_
  refine mm_iload C (pc := 60) 4 dX11_ask_60 rfl ?_
  refine mm_istore C (pc := 62) (i := 4) (lv' := [(4, .int l6), (3, .int l5), (0, va_rf l0), (2, va_rf l2), (5, .int l5), (6, .int l6)]) dX11_ask_62 (by decide) rfl ?_
  refine mm_sub C [2, 3, 1, 0, 4] rfl ?_
  exact w_X11_ask_64 hd C (fun z0 z1 z2 z3 z4 z5 hK => q19 z0 z1 z2 z3 z4 z5 hK) _ _ _ _ _ _ hK
def F_X11_ask_19 : Nat → Option Nat → Option Nat → Int32 → Int32 → Int32 → MH → Option ((String ⊕ Int32) × MH)
  | 0 => fun _ _ _ _ _ _ => none
  | n + 1 => fun l0 l2 l3 l4 l5 h => (gR h l0 11 5).bind fun v22 => mm_b2 (cV h v22 0 (F_X0_calls v22 h)) fun v25 h25 => if v25 ≤ l5 then (some (.inr l3, h25)) else (mm_b2 (cV h25 l0 11 (F_X11_mostToOneLine l0 l2 l5 h25)) fun v35 h35 => if v35 ≤ 0 then (F_X11_ask_64 (F_X11_ask_19 n) l0 l2 l3 l4 l5 h35) else (if l3 = ((-1) : Int32) then (F_X11_ask_57 (F_X11_ask_19 n) l0 l2 l5 v35 h35) else (if l4 ≤ v35 then (F_X11_ask_64 (F_X11_ask_19 n) l0 l2 l3 l4 l5 h35) else (F_X11_ask_57 (F_X11_ask_19 n) l0 l2 l5 v35 h35))))
set_option maxRecDepth 20000 in
set_option maxHeartbeats 4000000 in
theorem w_X11_ask_19 {d : Nat} {V : Nat → List (Nat × Value) → List Value → MH → Prop} {r : String ⊕ Int32} {hz : MH} (hd : 8 ≤ d) (C : mm_C d yX11_ask cX11_ask 7 (some .int) (mm_oi r) hz V) : ∀ (n : Nat) (l0 : Option Nat) (l2 : Option Nat) (l3 : Int32) (l4 : Int32) (l5 : Int32) (h : MH), F_X11_ask_19 n l0 l2 l3 l4 l5 h = some (r, hz) → V 19 [(0, va_rf l0), (2, va_rf l2), (3, .int l3), (4, .int l4), (5, .int l5)] [] h := by
  intro n
  induction n with
  | zero => intro l0 l2 l3 l4 l5 h hK; cases hK
  | succ n ih =>
    intro l0 l2 l3 l4 l5 h hK
    replace hK : ((gR h l0 11 5).bind fun v22 => mm_b2 (cV h v22 0 (F_X0_calls v22 h)) fun v25 h25 => if v25 ≤ l5 then (some (.inr l3, h25)) else (mm_b2 (cV h25 l0 11 (F_X11_mostToOneLine l0 l2 l5 h25)) fun v35 h35 => if v35 ≤ 0 then (F_X11_ask_64 (F_X11_ask_19 n) l0 l2 l3 l4 l5 h35) else (if l3 = ((-1) : Int32) then (F_X11_ask_57 (F_X11_ask_19 n) l0 l2 l5 v35 h35) else (if l4 ≤ v35 then (F_X11_ask_64 (F_X11_ask_19 n) l0 l2 l3 l4 l5 h35) else (F_X11_ask_57 (F_X11_ask_19 n) l0 l2 l5 v35 h35))))) = some (r, hz) := hK
    refine mm_iload C (pc := 19) 4 dX11_ask_19 rfl ?_
    refine mm_aload_n C (pc := 21) 0 dX11_ask_21 rfl ?_
    replace hK := mm_bd hK; obtain ⟨v22, e22, hK⟩ := hK
    refine mm_getr C (pc := 22) (k := 5) inGX11 rfl (by decide) wd_850 dX11_ask_22 e22 ?_
    replace hK := mm_b2s hK; obtain ⟨v25, h25, e25, hK⟩ := hK
    obtain ⟨o25, e25⟩ := cV_some e25
    refine mm_callV C (pc := 25) (d1 := 1) (As := []) (st := [.int l5]) (vk := (some (.int v25))) ((S_X0_calls (by omega)) e25) tT_X0_calls o25 (Or.inr ⟨_, rfl, rfl⟩) wd_1075 wd_919 wd_920 (by omega) (by decide) rfl (by simp [mm_crf, mm_cti, mm_ctl]) rfl dX11_ask_25 ?_
    show V _ _ (.int v25 :: _) _
    refine mm_icmp_ge C (pc := 28) (tgt := 70) dX11_ask_28 (by decide) (fun hc => ?_) (fun hc => ?_)
    · replace hK := mm_ip hc hK
      refine mm_iload_n C (pc := 70) 2 dX11_ask_70 rfl ?_
      cases hK
      exact mm_iret C (pc := 71) rfl dX11_ask_71 rfl rfl
    · replace hK := mm_in hc hK
      refine mm_aload_n C (pc := 31) 0 dX11_ask_31 rfl ?_
      refine mm_aload_n C (pc := 32) 1 dX11_ask_32 rfl ?_
      refine mm_iload C (pc := 33) 4 dX11_ask_33 rfl ?_
      replace hK := mm_b2s hK; obtain ⟨v35, h35, e35, hK⟩ := hK
      obtain ⟨o35, e35⟩ := cV_some e35
      refine mm_callV C (pc := 35) (d1 := 4) (As := [va_rf l2, .int l5]) (st := []) (vk := (some (.int v35))) ((S_X11_mostToOneLine (by omega)) e35) tT_X11_mostToOneLine o35 (Or.inr ⟨_, rfl, rfl⟩) wd_1909 wd_1911 wd_59 (by omega) (by decide) rfl (by simp [mm_crf, mm_cti, mm_ctl]) rfl dX11_ask_35 ?_
      show V _ _ (.int v35 :: _) _
      refine mm_istore C (pc := 38) (i := 6) (lv' := [(6, .int v35), (0, va_rf l0), (2, va_rf l2), (3, .int l3), (4, .int l4), (5, .int l5)]) dX11_ask_38 (by decide) rfl ?_
      refine mm_iload C (pc := 40) 0 dX11_ask_40 rfl ?_
      refine mm_if_le C (pc := 42) (tgt := 64) dX11_ask_42 (by decide) (fun hc => ?_) (fun hc => ?_)
      · replace hK := mm_ip hc hK
        refine mm_sub C [1, 2, 3, 4, 5] rfl ?_
        exact w_X11_ask_64 hd C (fun z0 z1 z2 z3 z4 z5 hK => ih z0 z1 z2 z3 z4 z5 hK) _ _ _ _ _ _ hK
      · replace hK := mm_in hc hK
        refine mm_iload_n C (pc := 45) 3 dX11_ask_45 rfl ?_
        refine mm_iconst C (pc := 46) (v := ((-1) : Int32)) dX11_ask_46 (by decide) ?_
        refine mm_icmp_eq C (pc := 47) (tgt := 57) dX11_ask_47 (by decide) (fun hc => ?_) (fun hc => ?_)
        · replace hK := mm_ip hc hK
          refine mm_sub C [1, 2, 5, 0] rfl ?_
          exact w_X11_ask_57 hd C (fun z0 z1 z2 z3 z4 z5 hK => ih z0 z1 z2 z3 z4 z5 hK) _ _ _ _ _ hK
        · replace hK := mm_in hc hK
          refine mm_iload C (pc := 50) 0 dX11_ask_50 rfl ?_
          refine mm_iload C (pc := 52) 4 dX11_ask_52 rfl ?_
          refine mm_icmp_ge C (pc := 54) (tgt := 64) dX11_ask_54 (by decide) (fun hc => ?_) (fun hc => ?_)
          · replace hK := mm_ip hc hK
            refine mm_sub C [1, 2, 3, 4, 5] rfl ?_
            exact w_X11_ask_64 hd C (fun z0 z1 z2 z3 z4 z5 hK => ih z0 z1 z2 z3 z4 z5 hK) _ _ _ _ _ _ hK
          · replace hK := mm_in hc hK
            refine mm_sub C [1, 2, 5, 0] rfl ?_
            exact w_X11_ask_57 hd C (fun z0 z1 z2 z3 z4 z5 hK => ih z0 z1 z2 z3 z4 z5 hK) _ _ _ _ _ hK
def F_X11_ask (a0 : Option Nat) (a1 : Int32) (h : MH) : Option ((String ⊕ Int32) × MH) := mm_b3 (cV h a0 11 (F_X11_toldTray a0 a1 h)) fun v2 h2 => mm_b3 (cV h2 a0 11 (F_X11_needThrees a0 v2 h2)) fun _ h8 => F_X11_ask_19 mm_N a0 v2 ((-1) : Int32) (0 : Int32) (0 : Int32) h8
set_option maxRecDepth 20000 in
set_option maxHeartbeats 4000000 in
theorem S_X11_ask {d : Nat} (hd : 8 ≤ d) {a0 : Option Nat} {a1 : Int32} {h : MH} {r : String ⊕ Int32} {hz : MH} (hK : F_X11_ask a0 a1 h = some (r, hz)) : mm_M yX11_ask cX11_ask 7 (some .int) d [va_rf a0, .int a1] h (mm_oi r) hz := by
  refine mm_ofV (by decide +kernel) (by simp [lg_sl, mm_crf, mm_cti, mm_ctl]) (fun V C => ?_)
  rw [show lv_args 0 [va_rf a0, .int a1] = [(0, va_rf a0), (1, .int a1)] by simp [lv_args, mm_crf, mm_cti, mm_ctl]]
  unfold F_X11_ask at hK
  refine mm_aload_n C (pc := 0) 0 dX11_ask_0 rfl ?_
  refine mm_iload_n C (pc := 1) 1 dX11_ask_1 rfl ?_
  replace hK := mm_b3s hK; rcases hK with ⟨E2, e2, rfl⟩ | ⟨v2, h2, e2, hK⟩
  · obtain ⟨o2, e2⟩ := cV_some e2
    exact mm_callVX C (pc := 2) (d1 := 7) (As := [.int a1]) (st := []) ((S_X11_toldTray (by omega)) e2) tT_X11_toldTray o2 (Or.inr ⟨_, rfl, rfl⟩) wd_1541 wd_1543 wd_40 (by omega) (by decide) rfl (by simp [mm_crf, mm_cti, mm_ctl]) rfl dX11_ask_2 rfl rfl
  obtain ⟨o2, e2⟩ := cV_some e2
  refine mm_callV C (pc := 2) (d1 := 7) (As := [.int a1]) (st := []) (vk := (some (va_rf v2))) ((S_X11_toldTray (by omega)) e2) tT_X11_toldTray o2 (Or.inr ⟨_, rfl, rfl⟩) wd_1541 wd_1543 wd_40 (by omega) (by decide) rfl (by simp [mm_crf, mm_cti, mm_ctl]) rfl dX11_ask_2 ?_
  show V _ _ (va_rf v2 :: _) _
  refine mm_astore_n C (pc := 5) (i := 2) (lv' := [(2, va_rf v2), (0, va_rf a0), (1, .int a1)]) dX11_ask_5 rfl (by decide) rfl ?_
  refine mm_aload_n C (pc := 6) 1 dX11_ask_6 rfl ?_
  refine mm_aload_n C (pc := 7) 0 dX11_ask_7 rfl ?_
  replace hK := mm_b3s hK; rcases hK with ⟨E8, e8, rfl⟩ | ⟨v8, h8, e8, hK⟩
  · obtain ⟨o8, e8⟩ := cV_some e8
    exact mm_callVX C (pc := 8) (d1 := 7) (As := [va_rf v2]) (st := []) ((S_X11_needThrees (by omega)) e8) tT_X11_needThrees o8 (Or.inr ⟨_, rfl, rfl⟩) wd_1881 wd_1883 wd_56 (by omega) (by decide) rfl (by simp [mm_crf, mm_cti, mm_ctl]) rfl dX11_ask_8 rfl rfl
  obtain ⟨o8, e8⟩ := cV_some e8
  refine mm_callV C (pc := 8) (d1 := 7) (As := [va_rf v2]) (st := []) (vk := none) ((S_X11_needThrees (by omega)) e8) tT_X11_needThrees o8 (Or.inr ⟨_, rfl, rfl⟩) wd_1881 wd_1883 wd_56 (by omega) (by decide) rfl (by simp [mm_crf, mm_cti, mm_ctl]) rfl dX11_ask_8 ?_
  show V _ _ [] _
  refine mm_iconst C (pc := 11) (v := ((-1) : Int32)) dX11_ask_11 (by decide) ?_
  refine mm_istore_n C (pc := 12) (i := 3) (lv' := [(3, .int ((-1) : Int32)), (2, va_rf v2), (0, va_rf a0), (1, .int a1)]) dX11_ask_12 rfl (by decide) (by simp [mm_crf]) ?_
  refine mm_iconst C (pc := 13) (v := (0 : Int32)) dX11_ask_13 (by decide) ?_
  refine mm_istore C (pc := 14) (i := 4) (lv' := [(4, .int (0 : Int32)), (3, .int ((-1) : Int32)), (2, va_rf v2), (0, va_rf a0), (1, .int a1)]) dX11_ask_14 (by decide) rfl ?_
  refine mm_iconst C (pc := 16) (v := (0 : Int32)) dX11_ask_16 (by decide) ?_
  refine mm_istore C (pc := 17) (i := 5) (lv' := [(5, .int (0 : Int32)), (4, .int (0 : Int32)), (3, .int ((-1) : Int32)), (2, va_rf v2), (0, va_rf a0), (1, .int a1)]) dX11_ask_17 (by decide) rfl ?_
  refine mm_sub C [4, 3, 2, 1, 0] rfl ?_
  exact w_X11_ask_19 hd C _ _ _ _ _ _ _ hK
theorem dJ7_fill_d0a16_0 : decode cJ7_fill_d0a16 0 = .ok (.iconst 0, 1) := by decide +kernel
theorem dJ7_fill_d0a16_1 : decode cJ7_fill_d0a16 1 = .ok (.istore_n 3, 1) := by decide +kernel
theorem dJ7_fill_d0a16_2 : decode cJ7_fill_d0a16 2 = .ok (.aload_n 0, 1) := by decide +kernel
theorem dJ7_fill_d0a16_3 : decode cJ7_fill_d0a16 3 = .ok (.arraylength, 1) := by decide +kernel
theorem dJ7_fill_d0a16_4 : decode cJ7_fill_d0a16 4 = .ok (.istore 4, 2) := by decide +kernel
theorem dJ7_fill_d0a16_6 : decode cJ7_fill_d0a16 6 = .ok (.iload_n 3, 1) := by decide +kernel
theorem dJ7_fill_d0a16_7 : decode cJ7_fill_d0a16 7 = .ok (.iload 4, 2) := by decide +kernel
theorem dJ7_fill_d0a16_9 : decode cJ7_fill_d0a16 9 = .ok (.if_icmp .ge 13, 3) := by decide +kernel
theorem dJ7_fill_d0a16_12 : decode cJ7_fill_d0a16 12 = .ok (.aload_n 0, 1) := by decide +kernel
theorem dJ7_fill_d0a16_13 : decode cJ7_fill_d0a16 13 = .ok (.iload_n 3, 1) := by decide +kernel
theorem dJ7_fill_d0a16_14 : decode cJ7_fill_d0a16 14 = .ok (.lload_n 1, 1) := by decide +kernel
theorem dJ7_fill_d0a16_15 : decode cJ7_fill_d0a16 15 = .ok (.lastore, 1) := by decide +kernel
theorem dJ7_fill_d0a16_16 : decode cJ7_fill_d0a16 16 = .ok (.iinc 3 1, 3) := by decide +kernel
theorem dJ7_fill_d0a16_19 : decode cJ7_fill_d0a16 19 = .ok (.goto (-13), 3) := by decide +kernel
theorem dJ7_fill_d0a16_22 : decode cJ7_fill_d0a16 22 = .ok (.return_, 1) := by decide +kernel
def F_J7_fill_d0a16_6 : Nat → Option Nat → Int64 → Int32 → Int32 → MH → Option MH
  | 0 => fun _ _ _ _ _ => none
  | n + 1 => fun l0 l1 l3 l4 h => if l4 ≤ l3 then (some h) else ((sL h l0 l3 l1).bind fun h15 => F_J7_fill_d0a16_6 n l0 l1 (l3 + (1 : Int32)) l4 h15)
set_option maxRecDepth 20000 in
set_option maxHeartbeats 4000000 in
theorem w_J7_fill_d0a16_6 {d : Nat} {V : Nat → List (Nat × Value) → List Value → MH → Prop} {hz : MH} (hd : 1 ≤ d) (C : mm_C d yJ7_fill_d0a16 cJ7_fill_d0a16 5 none (.inr none) hz V) : ∀ (n : Nat) (l0 : Option Nat) (l1 : Int64) (l3 : Int32) (l4 : Int32) (h : MH), F_J7_fill_d0a16_6 n l0 l1 l3 l4 h = some hz → V 6 [(0, va_rf l0), (1, .long l1), (3, .int l3), (4, .int l4)] [] h := by
  intro n
  induction n with
  | zero => intro l0 l1 l3 l4 h hK; cases hK
  | succ n ih =>
    intro l0 l1 l3 l4 h hK
    replace hK : (if l4 ≤ l3 then (some h) else ((sL h l0 l3 l1).bind fun h15 => F_J7_fill_d0a16_6 n l0 l1 (l3 + (1 : Int32)) l4 h15)) = some hz := hK
    refine mm_iload_n C (pc := 6) 2 dJ7_fill_d0a16_6 rfl ?_
    refine mm_iload C (pc := 7) 3 dJ7_fill_d0a16_7 rfl ?_
    refine mm_icmp_ge C (pc := 9) (tgt := 22) dJ7_fill_d0a16_9 (by decide) (fun hc => ?_) (fun hc => ?_)
    · replace hK := mm_ip hc hK
      cases hK
      exact mm_vret C (pc := 22) rfl dJ7_fill_d0a16_22 rfl rfl
    · replace hK := mm_in hc hK
      refine mm_aload_n C (pc := 12) 0 dJ7_fill_d0a16_12 rfl ?_
      refine mm_iload_n C (pc := 13) 2 dJ7_fill_d0a16_13 rfl ?_
      refine mm_lload_n C (pc := 14) 1 dJ7_fill_d0a16_14 rfl ?_
      replace hK := mm_bd hK; obtain ⟨h15, e15, hK⟩ := hK
      refine mm_last C (pc := 15) dJ7_fill_d0a16_15 e15 ?_
      refine mm_iinc C (pc := 16) (v := (l3 + (1 : Int32))) (lv' := [(3, .int (l3 + (1 : Int32))), (0, va_rf l0), (1, .long l1), (4, .int l4)]) 2 dJ7_fill_d0a16_16 rfl rfl (by decide) rfl ?_
      refine mm_goto C (pc := 19) (tgt := 6) dJ7_fill_d0a16_19 (by decide) ?_
      refine mm_sub C [1, 2, 0, 3] rfl ?_
      exact ih _ _ _ _ _ hK
def F_J7_fill_d0a16 (a0 : Option Nat) (a1 : Int64) (h : MH) : Option MH := (aNt h a0 1).bind fun v3 => F_J7_fill_d0a16_6 mm_N a0 a1 (0 : Int32) v3 h
set_option maxRecDepth 20000 in
set_option maxHeartbeats 4000000 in
theorem S_J7_fill_d0a16 {d : Nat} (hd : 1 ≤ d) {a0 : Option Nat} {a1 : Int64} {h : MH} {hz : MH} (hK : F_J7_fill_d0a16 a0 a1 h = some hz) : mm_M yJ7_fill_d0a16 cJ7_fill_d0a16 5 none d [va_rf a0, .long a1] h (.inr none) hz := by
  refine mm_ofV (by decide +kernel) (by simp [lg_sl, mm_crf, mm_cti, mm_ctl]) (fun V C => ?_)
  rw [show lv_args 0 [va_rf a0, .long a1] = [(0, va_rf a0), (1, .long a1)] by simp [lv_args, mm_crf, mm_cti, mm_ctl]]
  unfold F_J7_fill_d0a16 at hK
  refine mm_iconst C (pc := 0) (v := (0 : Int32)) dJ7_fill_d0a16_0 (by decide) ?_
  refine mm_istore_n C (pc := 1) (i := 3) (lv' := [(3, .int (0 : Int32)), (0, va_rf a0), (1, .long a1)]) dJ7_fill_d0a16_1 rfl (by decide) rfl ?_
  refine mm_aload_n C (pc := 2) 1 dJ7_fill_d0a16_2 rfl ?_
  replace hK := mm_bd hK; obtain ⟨v3, e3, hK⟩ := hK
  refine mm_alenJ C (pc := 3) dJ7_fill_d0a16_3 e3 ?_
  refine mm_istore C (pc := 4) (i := 4) (lv' := [(4, .int v3), (3, .int (0 : Int32)), (0, va_rf a0), (1, .long a1)]) dJ7_fill_d0a16_4 (by decide) rfl ?_
  refine mm_sub C [2, 3, 1, 0] rfl ?_
  exact w_J7_fill_d0a16_6 hd C _ _ _ _ _ _ hK
theorem wd_1928 : Cond.code yJ7_fill_d0a16 cJ7_fill_d0a16 5 none ∈ lw_good := mm_wd 1928 (by decide +kernel) (by decide +kernel)
theorem tT_J7_fill_d0a16 : mm_T yJ7_fill_d0a16 cJ7_fill_d0a16 5 none 2 := ⟨wd_1928, wd_154, by decide +kernel, by decide +kernel, by decide +kernel, by decide +kernel⟩
theorem wd_1926 : Cond.methodLink RX10 28 yJ7_fill_d0a16 ∈ lw_good := mm_wd 1926 (by decide +kernel) (by decide +kernel)
theorem wd_1927 : Cond.static yJ7_fill_d0a16 ∈ lw_good := mm_wd 1927 (by decide +kernel) (by decide +kernel)
theorem wd_1929 : Cond.methodLink RX10 34 yJ9_min_7cf53 ∈ lw_good := mm_wd 1929 (by decide +kernel) (by decide +kernel)
def F_X10_makeOf (a0 : Option Nat) (a1 : Int32) (a2 : Int32) (h : MH) : Option MH := (gR h a0 10 0).bind fun v1 => (F_J7_fill_d0a16 v1 (0 : Int64) h).bind fun h5 => (pI h5 a0 10 1 a1).bind fun h10 => (pI h10 a0 10 2 (mnI a2 (30 : Int32))).bind fun h20 => some h20
set_option maxRecDepth 20000 in
set_option maxHeartbeats 4000000 in
theorem S_X10_makeOf {d : Nat} (hd : 2 ≤ d) {a0 : Option Nat} {a1 : Int32} {a2 : Int32} {h : MH} {hz : MH} (hK : F_X10_makeOf a0 a1 a2 h = some hz) : mm_M yX10_makeOf cX10_makeOf 3 none d [va_rf a0, .int a1, .int a2] h (.inr none) hz := by
  refine mm_ofV (by decide +kernel) (by simp [lg_sl, mm_crf, mm_cti, mm_ctl]) (fun V C => ?_)
  rw [show lv_args 0 [va_rf a0, .int a1, .int a2] = [(0, va_rf a0), (1, .int a1), (2, .int a2)] by simp [lv_args, mm_crf, mm_cti, mm_ctl]]
  unfold F_X10_makeOf at hK
  refine mm_aload_n C (pc := 0) 0 dX10_makeOf_0 rfl ?_
  replace hK := mm_bd hK; obtain ⟨v1, e1, hK⟩ := hK
  refine mm_getr C (pc := 1) (k := 0) inGX10 rfl (by decide) wd_834 dX10_makeOf_1 e1 ?_
  refine mm_lconst C (pc := 4) (v := (0 : Int64)) dX10_makeOf_4 (by decide) ?_
  replace hK := mm_bd hK; obtain ⟨h5, e5, hK⟩ := hK
  refine mm_callS C (pc := 5) (d1 := 1) (As := [va_rf v1, .long (0 : Int64)]) (st := []) (vk := none) ((S_J7_fill_d0a16 (by omega)) e5) tT_J7_fill_d0a16 wd_1926 wd_1927 (by omega) (by decide) rfl (by simp [mm_crf, mm_cti, mm_ctl]) rfl dX10_makeOf_5 ?_
  show V _ _ [] _
  refine mm_aload_n C (pc := 8) 0 dX10_makeOf_8 rfl ?_
  refine mm_iload_n C (pc := 9) 1 dX10_makeOf_9 rfl ?_
  replace hK := mm_bd hK; obtain ⟨h10, e10, hK⟩ := hK
  refine mm_puti C (pc := 10) (k := 1) false (fun z => by cases z) inGX10 tyX10 tyX10_ok nmX10 rfl (by decide) wd_835 rfl rfl dX10_makeOf_10 e10 ?_
  refine mm_aload_n C (pc := 13) 0 dX10_makeOf_13 rfl ?_
  refine mm_iload_n C (pc := 14) 2 dX10_makeOf_14 rfl ?_
  refine mm_bipush C (pc := 15) (v := (30 : Int32)) dX10_makeOf_15 (by decide) ?_
  refine mm_mmin C (pc := 17) wd_1929 wd_409 wd_152 wd_410 (by omega) (by simp [mm_crf, mm_cti, mm_ctl]) dX10_makeOf_17 ?_
  replace hK := mm_bd hK; obtain ⟨h20, e20, hK⟩ := hK
  refine mm_puti C (pc := 20) (k := 2) false (fun z => by cases z) inGX10 tyX10 tyX10_ok nmX10 rfl (by decide) wd_836 rfl rfl dX10_makeOf_20 e20 ?_
  cases hK
  exact mm_vret C (pc := 23) rfl dX10_makeOf_23 rfl rfl
theorem wd_1925 : Cond.code yX10_makeOf cX10_makeOf 3 none ∈ lw_good := mm_wd 1925 (by decide +kernel) (by decide +kernel)
theorem tT_X10_makeOf : mm_T yX10_makeOf cX10_makeOf 3 none 2 := ⟨wd_1925, wd_169, by decide +kernel, by decide +kernel, by decide +kernel, by decide +kernel⟩
theorem wd_1922 : Cond.methodLink RX11 394 yX10_makeOf ∈ lw_good := mm_wd 1922 (by decide +kernel) (by decide +kernel)
theorem wd_1923 : Cond.instanceMethod yX10_makeOf ∈ lw_good := mm_wd 1923 (by decide +kernel) (by decide +kernel)
theorem wd_1924 : Cond.selects RX10 yX10_makeOf yX10_makeOf ∈ lw_good := mm_wd 1924 (by decide +kernel) (by decide +kernel)
def F_X11_tray (a0 : Option Nat) (a1 : Int32) (a2 : Int32) (a3 : Int32) (h : MH) : Option ((String ⊕ Unit) × MH) := mm_b3 (cV h a0 11 (F_X11_anyTray a0 a1 h)) fun v2 h2 => mm_b3 (F_X11_needWithin a2 (0 : Int32) (3 : Int32) h2) fun _ h10 => mm_b3 (F_X11_needWithin a3 (0 : Int32) (30 : Int32) h10) fun _ h17 => (cV h17 v2 10 (F_X10_makeOf v2 a2 a3 h17)).bind fun h24 => some (.inr (), h24)
set_option maxRecDepth 20000 in
set_option maxHeartbeats 4000000 in
theorem S_X11_tray {d : Nat} (hd : 7 ≤ d) {a0 : Option Nat} {a1 : Int32} {a2 : Int32} {a3 : Int32} {h : MH} {r : String ⊕ Unit} {hz : MH} (hK : F_X11_tray a0 a1 a2 a3 h = some (r, hz)) : mm_M yX11_tray cX11_tray 5 none d [va_rf a0, .int a1, .int a2, .int a3] h (mm_ov r) hz := by
  refine mm_ofV (by decide +kernel) (by simp [lg_sl, mm_crf, mm_cti, mm_ctl]) (fun V C => ?_)
  rw [show lv_args 0 [va_rf a0, .int a1, .int a2, .int a3] = [(0, va_rf a0), (1, .int a1), (2, .int a2), (3, .int a3)] by simp [lv_args, mm_crf, mm_cti, mm_ctl]]
  unfold F_X11_tray at hK
  refine mm_aload_n C (pc := 0) 0 dX11_tray_0 rfl ?_
  refine mm_iload_n C (pc := 1) 1 dX11_tray_1 rfl ?_
  replace hK := mm_b3s hK; rcases hK with ⟨E2, e2, rfl⟩ | ⟨v2, h2, e2, hK⟩
  · obtain ⟨o2, e2⟩ := cV_some e2
    exact mm_callVX C (pc := 2) (d1 := 6) (As := [.int a1]) (st := []) ((S_X11_anyTray (by omega)) e2) tT_X11_anyTray o2 (Or.inr ⟨_, rfl, rfl⟩) wd_1545 wd_1547 wd_41 (by omega) (by decide) rfl (by simp [mm_crf, mm_cti, mm_ctl]) rfl dX11_tray_2 rfl rfl
  obtain ⟨o2, e2⟩ := cV_some e2
  refine mm_callV C (pc := 2) (d1 := 6) (As := [.int a1]) (st := []) (vk := (some (va_rf v2))) ((S_X11_anyTray (by omega)) e2) tT_X11_anyTray o2 (Or.inr ⟨_, rfl, rfl⟩) wd_1545 wd_1547 wd_41 (by omega) (by decide) rfl (by simp [mm_crf, mm_cti, mm_ctl]) rfl dX11_tray_2 ?_
  show V _ _ (va_rf v2 :: _) _
  refine mm_astore C (pc := 5) (i := 4) (lv' := [(4, va_rf v2), (0, va_rf a0), (1, .int a1), (2, .int a2), (3, .int a3)]) dX11_tray_5 (by decide) rfl ?_
  refine mm_iload_n C (pc := 7) 3 dX11_tray_7 rfl ?_
  refine mm_iconst C (pc := 8) (v := (0 : Int32)) dX11_tray_8 (by decide) ?_
  refine mm_iconst C (pc := 9) (v := (3 : Int32)) dX11_tray_9 (by decide) ?_
  replace hK := mm_b3s hK; rcases hK with ⟨E10, e10, rfl⟩ | ⟨v10, h10, e10, hK⟩
  · skip
    exact mm_callSX C (pc := 10) (d1 := 6) (As := [.int a2, .int (0 : Int32), .int (3 : Int32)]) (st := []) ((S_X11_needWithin (by omega)) e10) tT_X11_needWithin wd_1163 wd_1164 (by omega) (by decide) rfl (by simp [mm_crf, mm_cti, mm_ctl]) rfl dX11_tray_10 rfl rfl
  refine mm_callS C (pc := 10) (d1 := 6) (As := [.int a2, .int (0 : Int32), .int (3 : Int32)]) (st := []) (vk := none) ((S_X11_needWithin (by omega)) e10) tT_X11_needWithin wd_1163 wd_1164 (by omega) (by decide) rfl (by simp [mm_crf, mm_cti, mm_ctl]) rfl dX11_tray_10 ?_
  show V _ _ [] _
  refine mm_iload_n C (pc := 13) 4 dX11_tray_13 rfl ?_
  refine mm_iconst C (pc := 14) (v := (0 : Int32)) dX11_tray_14 (by decide) ?_
  refine mm_bipush C (pc := 15) (v := (30 : Int32)) dX11_tray_15 (by decide) ?_
  replace hK := mm_b3s hK; rcases hK with ⟨E17, e17, rfl⟩ | ⟨v17, h17, e17, hK⟩
  · skip
    exact mm_callSX C (pc := 17) (d1 := 6) (As := [.int a3, .int (0 : Int32), .int (30 : Int32)]) (st := []) ((S_X11_needWithin (by omega)) e17) tT_X11_needWithin wd_1163 wd_1164 (by omega) (by decide) rfl (by simp [mm_crf, mm_cti, mm_ctl]) rfl dX11_tray_17 rfl rfl
  refine mm_callS C (pc := 17) (d1 := 6) (As := [.int a3, .int (0 : Int32), .int (30 : Int32)]) (st := []) (vk := none) ((S_X11_needWithin (by omega)) e17) tT_X11_needWithin wd_1163 wd_1164 (by omega) (by decide) rfl (by simp [mm_crf, mm_cti, mm_ctl]) rfl dX11_tray_17 ?_
  show V _ _ [] _
  refine mm_aload C (pc := 20) 0 dX11_tray_20 rfl ?_
  refine mm_iload_n C (pc := 22) 3 dX11_tray_22 rfl ?_
  refine mm_iload_n C (pc := 23) 4 dX11_tray_23 rfl ?_
  replace hK := mm_bd hK; obtain ⟨h24, e24, hK⟩ := hK
  obtain ⟨o24, e24⟩ := cV_some e24
  refine mm_callV C (pc := 24) (d1 := 2) (As := [.int a2, .int a3]) (st := []) (vk := none) ((S_X10_makeOf (by omega)) e24) tT_X10_makeOf o24 (Or.inr ⟨_, rfl, rfl⟩) wd_1922 wd_1923 wd_1924 (by omega) (by decide) rfl (by simp [mm_crf, mm_cti, mm_ctl]) rfl dX11_tray_24 ?_
  show V _ _ [] _
  cases hK
  exact mm_vret C (pc := 27) rfl dX11_tray_27 rfl rfl
def F_X10_cut (a0 : Option Nat) (a1 : Int64) (h : MH) : Option (Int64 × MH) := (gI h a0 10 1).bind fun v1 => if v1 = (0 : Int32) then (some ((((a1.toInt32).toInt8.toInt32).toInt64), h)) else if v1 = (1 : Int32) then (some ((((a1.toInt32).toInt16.toInt32).toInt64), h)) else if v1 = (2 : Int32) then (some (((a1.toInt32).toInt64), h)) else (some (a1, h))
set_option maxRecDepth 20000 in
set_option maxHeartbeats 4000000 in
theorem S_X10_cut {d : Nat} (hd : 1 ≤ d) {a0 : Option Nat} {a1 : Int64} {h : MH} {r : Int64} {hz : MH} (hK : F_X10_cut a0 a1 h = some (r, hz)) : mm_M yX10_cut cX10_cut 3 (some .long) d [va_rf a0, .long a1] h (.inr (some (.long r))) hz := by
  refine mm_ofV (by decide +kernel) (by simp [lg_sl, mm_crf, mm_cti, mm_ctl]) (fun V C => ?_)
  rw [show lv_args 0 [va_rf a0, .long a1] = [(0, va_rf a0), (1, .long a1)] by simp [lv_args, mm_crf, mm_cti, mm_ctl]]
  unfold F_X10_cut at hK
  refine mm_aload_n C (pc := 0) 0 dX10_cut_0 rfl ?_
  replace hK := mm_bd hK; obtain ⟨v1, e1, hK⟩ := hK
  refine mm_geti C (pc := 1) (k := 1) inGX10 rfl (by decide) wd_835 dX10_cut_1 e1 ?_
  by_cases hc4_0 : v1 = (0 : Int32)
  · replace hK := mm_ip hc4_0 hK
    refine mm_tableIn C (pc := 4) (tgt := 32) (off := 28) dX10_cut_4 (by rw [hc4_0]; decide) (by rw [hc4_0]; decide) (by rw [hc4_0]; rfl) (by decide) ?_
    refine mm_lload_n C (pc := 32) 1 dX10_cut_32 rfl ?_
    refine mm_l2i C (pc := 33) dX10_cut_33 ?_
    refine mm_i2b C (pc := 34) dX10_cut_34 ?_
    refine mm_i2l C (pc := 35) dX10_cut_35 ?_
    cases hK
    exact mm_lret C (pc := 36) rfl dX10_cut_36 rfl rfl
  replace hK := mm_in hc4_0 hK
  by_cases hc4_1 : v1 = (1 : Int32)
  · replace hK := mm_ip hc4_1 hK
    refine mm_tableIn C (pc := 4) (tgt := 37) (off := 33) dX10_cut_4 (by rw [hc4_1]; decide) (by rw [hc4_1]; decide) (by rw [hc4_1]; rfl) (by decide) ?_
    refine mm_lload_n C (pc := 37) 1 dX10_cut_37 rfl ?_
    refine mm_l2i C (pc := 38) dX10_cut_38 ?_
    refine mm_i2s C (pc := 39) dX10_cut_39 ?_
    refine mm_i2l C (pc := 40) dX10_cut_40 ?_
    cases hK
    exact mm_lret C (pc := 41) rfl dX10_cut_41 rfl rfl
  replace hK := mm_in hc4_1 hK
  by_cases hc4_2 : v1 = (2 : Int32)
  · replace hK := mm_ip hc4_2 hK
    refine mm_tableIn C (pc := 4) (tgt := 42) (off := 38) dX10_cut_4 (by rw [hc4_2]; decide) (by rw [hc4_2]; decide) (by rw [hc4_2]; rfl) (by decide) ?_
    refine mm_lload_n C (pc := 42) 1 dX10_cut_42 rfl ?_
    refine mm_l2i C (pc := 43) dX10_cut_43 ?_
    refine mm_i2l C (pc := 44) dX10_cut_44 ?_
    cases hK
    exact mm_lret C (pc := 45) rfl dX10_cut_45 rfl rfl
  replace hK := mm_in hc4_2 hK
  refine mm_tableOut C (pc := 4) (tgt := 46) dX10_cut_4 (by have t0 := mm_nei hc4_0 (k := 0) (by decide); have t1 := mm_nei hc4_1 (k := 1) (by decide); have t2 := mm_nei hc4_2 (k := 2) (by decide); omega) (by decide) ?_
  refine mm_lload_n C (pc := 46) 1 dX10_cut_46 rfl ?_
  cases hK
  exact mm_lret C (pc := 47) rfl dX10_cut_47 rfl rfl
