def F_X12_crossings (a0 : Option Nat) (a1 : Int32) (h : MH) : Option (Int32 × MH) := mm_b2 (cV h a0 12 (F_X12_twosFault a0 a1 h)) fun v3 h3 => (pI h3 a0 12 4 v3).bind fun h6 => (gI h6 a0 12 4).bind fun v10 => if v10 ≤ 0 then ((pI h6 a0 12 33 (0 : Int32)).bind fun h20 => (cV h20 a0 12 ((G_X12_goesCrossed 64) a0 a1 (0 : Int32) h20)).bind fun h26 => (gI h26 a0 12 33).bind fun v30 => some (v30, h26)) else (some ((0 : Int32), h6))
set_option maxRecDepth 20000 in
set_option maxHeartbeats 4000000 in
theorem S_X12_crossings {d : Nat} (hd : 74 ≤ d) {a0 : Option Nat} {a1 : Int32} {h : MH} {r : Int32} {hz : MH} (hK : F_X12_crossings a0 a1 h = some (r, hz)) : mm_M yX12_crossings cX12_crossings 2 (some .int) d [va_rf a0, .int a1] h (.inr (some (.int r))) hz := by
  refine mm_ofV (by decide +kernel) (by simp [lg_sl, mm_crf, mm_cti, mm_ctl]) (fun V C => ?_)
  rw [show lv_args 0 [va_rf a0, .int a1] = [(0, va_rf a0), (1, .int a1)] by simp [lv_args, mm_crf, mm_cti, mm_ctl]]
  unfold F_X12_crossings at hK
  refine mm_aload_n C (pc := 0) 0 dX12_crossings_0 rfl ?_
  refine mm_aload_n C (pc := 1) 0 dX12_crossings_1 rfl ?_
  refine mm_iload_n C (pc := 2) 1 dX12_crossings_2 rfl ?_
  replace hK := mm_b2s hK; obtain ⟨v3, h3, e3, hK⟩ := hK
  obtain ⟨o3, e3⟩ := cV_some e3
  refine mm_callV C (pc := 3) (d1 := 4) (As := [.int a1]) (st := [va_rf a0]) (vk := (some (.int v3))) ((S_X12_twosFault (by omega)) e3) tT_X12_twosFault o3 (Or.inr ⟨_, rfl, rfl⟩) wd_2578 wd_2580 wd_123 (by omega) (by decide) rfl (by simp [mm_crf, mm_cti, mm_ctl]) rfl dX12_crossings_3 ?_
  show V _ _ (.int v3 :: _) _
  replace hK := mm_bd hK; obtain ⟨h6, e6, hK⟩ := hK
  refine mm_puti C (pc := 6) (k := 4) false (fun z => by cases z) inGX12 tyX12 tyX12_ok nmX12 rfl (by decide) wd_2003 rfl rfl dX12_crossings_6 e6 ?_
  refine mm_aload_n C (pc := 9) 0 dX12_crossings_9 rfl ?_
  replace hK := mm_bd hK; obtain ⟨v10, e10, hK⟩ := hK
  refine mm_geti C (pc := 10) (k := 4) inGX12 rfl (by decide) wd_2003 dX12_crossings_10 e10 ?_
  refine mm_if_le C (pc := 13) (tgt := 18) dX12_crossings_13 (by decide) (fun hc => ?_) (fun hc => ?_)
  · replace hK := mm_ip hc hK
    refine mm_aload_n C (pc := 18) 0 dX12_crossings_18 rfl ?_
    refine mm_iconst C (pc := 19) (v := (0 : Int32)) dX12_crossings_19 (by decide) ?_
    replace hK := mm_bd hK; obtain ⟨h20, e20, hK⟩ := hK
    refine mm_puti C (pc := 20) (k := 33) false (fun z => by cases z) inGX12 tyX12 tyX12_ok nmX12 rfl (by decide) wd_2032 rfl rfl dX12_crossings_20 e20 ?_
    refine mm_aload_n C (pc := 23) 0 dX12_crossings_23 rfl ?_
    refine mm_iload_n C (pc := 24) 1 dX12_crossings_24 rfl ?_
    refine mm_iconst C (pc := 25) (v := (0 : Int32)) dX12_crossings_25 (by decide) ?_
    replace hK := mm_bd hK; obtain ⟨h26, e26, hK⟩ := hK
    obtain ⟨o26, e26⟩ := cV_some e26
    refine mm_callV C (pc := 26) (d1 := 73) (As := [.int a1, .int (0 : Int32)]) (st := []) (vk := none) (((S_G_X12_goesCrossed 64) _ (by omega)) e26) tT_X12_goesCrossed o26 (Or.inr ⟨_, rfl, rfl⟩) wd_2594 wd_2596 wd_126 (by omega) (by decide) rfl (by simp [mm_crf, mm_cti, mm_ctl]) rfl dX12_crossings_26 ?_
    show V _ _ [] _
    refine mm_aload_n C (pc := 29) 0 dX12_crossings_29 rfl ?_
    replace hK := mm_bd hK; obtain ⟨v30, e30, hK⟩ := hK
    refine mm_geti C (pc := 30) (k := 33) inGX12 rfl (by decide) wd_2032 dX12_crossings_30 e30 ?_
    cases hK
    exact mm_iret C (pc := 33) rfl dX12_crossings_33 rfl rfl
  · replace hK := mm_in hc hK
    refine mm_iconst C (pc := 16) (v := (0 : Int32)) dX12_crossings_16 (by decide) ?_
    cases hK
    exact mm_iret C (pc := 17) rfl dX12_crossings_17 rfl rfl
def F_X12_laysLikings_14 (k2 : Option Nat → Int32 → MH → Option MH) : Nat → Option Nat → Int32 → Int32 → MH → Option MH
  | 0 => fun _ _ _ _ => none
  | n + 1 => fun l0 l1 l2 h => (gR h l0 12 0).bind fun v16 => (aI h v16 0 (1 : Int32)).bind fun v20 => if v20 ≤ l2 then (k2 l0 (l1 + (1 : Int32)) h) else ((gR h l0 12 34).bind fun v25 => mm_b2 (cV h l0 12 (F_X12_likesHow l0 l1 l2 h)) fun v37 h37 => (sI h37 v25 0 (((8 : Int32) * l1) + l2) v37).bind fun h40 => F_X12_laysLikings_14 k2 n l0 l1 (l2 + (1 : Int32)) h40)
set_option maxRecDepth 20000 in
set_option maxHeartbeats 4000000 in
theorem w_X12_laysLikings_14 {d : Nat} {V : Nat → List (Nat × Value) → List Value → MH → Prop} {hz : MH} {k2 : Option Nat → Int32 → MH → Option MH} (hd : 5 ≤ d) (C : mm_C d yX12_laysLikings cX12_laysLikings 3 none (.inr none) hz V) (q2 : ∀ (x0 : Option Nat) (x1 : Int32) (h : MH), k2 x0 x1 h = some hz → V 2 [(0, va_rf x0), (1, .int x1)] [] h) : ∀ (n : Nat) (l0 : Option Nat) (l1 : Int32) (l2 : Int32) (h : MH), F_X12_laysLikings_14 k2 n l0 l1 l2 h = some hz → V 14 [(0, va_rf l0), (1, .int l1), (2, .int l2)] [] h := by
  intro n
  induction n with
  | zero => intro l0 l1 l2 h hK; cases hK
  | succ n ih =>
    intro l0 l1 l2 h hK
    replace hK : ((gR h l0 12 0).bind fun v16 => (aI h v16 0 (1 : Int32)).bind fun v20 => if v20 ≤ l2 then (k2 l0 (l1 + (1 : Int32)) h) else ((gR h l0 12 34).bind fun v25 => mm_b2 (cV h l0 12 (F_X12_likesHow l0 l1 l2 h)) fun v37 h37 => (sI h37 v25 0 (((8 : Int32) * l1) + l2) v37).bind fun h40 => F_X12_laysLikings_14 k2 n l0 l1 (l2 + (1 : Int32)) h40)) = some hz := hK
    refine mm_iload_n C (pc := 14) 2 dX12_laysLikings_14 rfl ?_
    refine mm_aload_n C (pc := 15) 0 dX12_laysLikings_15 rfl ?_
    replace hK := mm_bd hK; obtain ⟨v16, e16, hK⟩ := hK
    refine mm_getr C (pc := 16) (k := 0) inGX12 rfl (by decide) wd_1999 dX12_laysLikings_16 e16 ?_
    refine mm_iconst C (pc := 19) (v := (1 : Int32)) dX12_laysLikings_19 (by decide) ?_
    replace hK := mm_bd hK; obtain ⟨v20, e20, hK⟩ := hK
    refine mm_iald C (pc := 20) dX12_laysLikings_20 e20 ?_
    refine mm_icmp_ge C (pc := 21) (tgt := 47) dX12_laysLikings_21 (by decide) (fun hc => ?_) (fun hc => ?_)
    · replace hK := mm_ip hc hK
      refine mm_iinc C (pc := 47) (v := (l1 + (1 : Int32))) (lv' := [(1, .int (l1 + (1 : Int32))), (0, va_rf l0), (2, .int l2)]) 1 dX12_laysLikings_47 rfl rfl (by decide) (by simp [mm_crf]) ?_
      refine mm_goto C (pc := 50) (tgt := 2) dX12_laysLikings_50 (by decide) ?_
      refine mm_sub C [1, 0] rfl ?_
      exact q2 _ _ _ hK
    · replace hK := mm_in hc hK
      refine mm_aload_n C (pc := 24) 0 dX12_laysLikings_24 rfl ?_
      replace hK := mm_bd hK; obtain ⟨v25, e25, hK⟩ := hK
      refine mm_getr C (pc := 25) (k := 34) inGX12 rfl (by decide) wd_2033 dX12_laysLikings_25 e25 ?_
      refine mm_bipush C (pc := 28) (v := (8 : Int32)) dX12_laysLikings_28 (by decide) ?_
      refine mm_iload_n C (pc := 30) 1 dX12_laysLikings_30 rfl ?_
      refine mm_imul C (pc := 31) dX12_laysLikings_31 ?_
      refine mm_iload_n C (pc := 32) 2 dX12_laysLikings_32 rfl ?_
      refine mm_iadd C (pc := 33) dX12_laysLikings_33 ?_
      refine mm_aload_n C (pc := 34) 0 dX12_laysLikings_34 rfl ?_
      refine mm_iload_n C (pc := 35) 1 dX12_laysLikings_35 rfl ?_
      refine mm_iload_n C (pc := 36) 2 dX12_laysLikings_36 rfl ?_
      replace hK := mm_b2s hK; obtain ⟨v37, h37, e37, hK⟩ := hK
      obtain ⟨o37, e37⟩ := cV_some e37
      refine mm_callV C (pc := 37) (d1 := 4) (As := [.int l1, .int l2]) (st := [.int (((8 : Int32) * l1) + l2), va_rf v25]) (vk := (some (.int v37))) ((S_X12_likesHow (by omega)) e37) tT_X12_likesHow o37 (Or.inr ⟨_, rfl, rfl⟩) wd_2344 wd_2346 wd_93 (by omega) (by decide) rfl (by simp [mm_crf, mm_cti, mm_ctl]) rfl dX12_laysLikings_37 ?_
      show V _ _ (.int v37 :: _) _
      replace hK := mm_bd hK; obtain ⟨h40, e40, hK⟩ := hK
      refine mm_iast C (pc := 40) dX12_laysLikings_40 e40 ?_
      refine mm_iinc C (pc := 41) (v := (l2 + (1 : Int32))) (lv' := [(2, .int (l2 + (1 : Int32))), (0, va_rf l0), (1, .int l1)]) 2 dX12_laysLikings_41 rfl rfl (by decide) rfl ?_
      refine mm_goto C (pc := 44) (tgt := 14) dX12_laysLikings_44 (by decide) ?_
      refine mm_sub C [1, 2, 0] rfl ?_
      exact ih _ _ _ _ hK
def F_X12_laysLikings_2 : Nat → Option Nat → Int32 → MH → Option MH
  | 0 => fun _ _ _ => none
  | n + 1 => fun l0 l1 h => (gR h l0 12 0).bind fun v4 => (aI h v4 0 (1 : Int32)).bind fun v8 => if v8 ≤ l1 then (some h) else (F_X12_laysLikings_14 (F_X12_laysLikings_2 n) mm_N l0 l1 (0 : Int32) h)
set_option maxRecDepth 20000 in
set_option maxHeartbeats 4000000 in
theorem w_X12_laysLikings_2 {d : Nat} {V : Nat → List (Nat × Value) → List Value → MH → Prop} {hz : MH} (hd : 5 ≤ d) (C : mm_C d yX12_laysLikings cX12_laysLikings 3 none (.inr none) hz V) : ∀ (n : Nat) (l0 : Option Nat) (l1 : Int32) (h : MH), F_X12_laysLikings_2 n l0 l1 h = some hz → V 2 [(0, va_rf l0), (1, .int l1)] [] h := by
  intro n
  induction n with
  | zero => intro l0 l1 h hK; cases hK
  | succ n ih =>
    intro l0 l1 h hK
    replace hK : ((gR h l0 12 0).bind fun v4 => (aI h v4 0 (1 : Int32)).bind fun v8 => if v8 ≤ l1 then (some h) else (F_X12_laysLikings_14 (F_X12_laysLikings_2 n) mm_N l0 l1 (0 : Int32) h)) = some hz := hK
    refine mm_iload_n C (pc := 2) 1 dX12_laysLikings_2 rfl ?_
    refine mm_aload_n C (pc := 3) 0 dX12_laysLikings_3 rfl ?_
    replace hK := mm_bd hK; obtain ⟨v4, e4, hK⟩ := hK
    refine mm_getr C (pc := 4) (k := 0) inGX12 rfl (by decide) wd_1999 dX12_laysLikings_4 e4 ?_
    refine mm_iconst C (pc := 7) (v := (1 : Int32)) dX12_laysLikings_7 (by decide) ?_
    replace hK := mm_bd hK; obtain ⟨v8, e8, hK⟩ := hK
    refine mm_iald C (pc := 8) dX12_laysLikings_8 e8 ?_
    refine mm_icmp_ge C (pc := 9) (tgt := 53) dX12_laysLikings_9 (by decide) (fun hc => ?_) (fun hc => ?_)
    · replace hK := mm_ip hc hK
      cases hK
      exact mm_vret C (pc := 53) rfl dX12_laysLikings_53 rfl rfl
    · replace hK := mm_in hc hK
      refine mm_iconst C (pc := 12) (v := (0 : Int32)) dX12_laysLikings_12 (by decide) ?_
      refine mm_istore_n C (pc := 13) (i := 2) (lv' := [(2, .int (0 : Int32)), (0, va_rf l0), (1, .int l1)]) dX12_laysLikings_13 rfl (by decide) rfl ?_
      refine mm_sub C [1, 2, 0] rfl ?_
      exact w_X12_laysLikings_14 hd C (fun z0 z1 z2 hK => ih z0 z1 z2 hK) _ _ _ _ _ hK
def F_X12_laysLikings (a0 : Option Nat) (h : MH) : Option MH := F_X12_laysLikings_2 mm_N a0 (0 : Int32) h
set_option maxRecDepth 20000 in
set_option maxHeartbeats 4000000 in
theorem S_X12_laysLikings {d : Nat} (hd : 5 ≤ d) {a0 : Option Nat} {h : MH} {hz : MH} (hK : F_X12_laysLikings a0 h = some hz) : mm_M yX12_laysLikings cX12_laysLikings 3 none d [va_rf a0] h (.inr none) hz := by
  refine mm_ofV (by decide +kernel) (by simp [lg_sl, mm_crf, mm_cti, mm_ctl]) (fun V C => ?_)
  rw [show lv_args 0 [va_rf a0] = [(0, va_rf a0)] by simp [lv_args, mm_crf, mm_cti, mm_ctl]]
  unfold F_X12_laysLikings at hK
  refine mm_iconst C (pc := 0) (v := (0 : Int32)) dX12_laysLikings_0 (by decide) ?_
  refine mm_istore_n C (pc := 1) (i := 1) (lv' := [(1, .int (0 : Int32)), (0, va_rf a0)]) dX12_laysLikings_1 rfl (by decide) (by simp [mm_crf]) ?_
  refine mm_sub C [1, 0] rfl ?_
  exact w_X12_laysLikings_2 hd C _ _ _ _ hK
def F_X12_likesMate_30 (s0 : Int32) (h : MH) : Option (Int32 × MH) := some (s0, h)
set_option maxRecDepth 20000 in
set_option maxHeartbeats 4000000 in
theorem w_X12_likesMate_30 {d : Nat} {V : Nat → List (Nat × Value) → List Value → MH → Prop} {r : Int32} {hz : MH} (hd : 1 ≤ d) (C : mm_C d yX12_likesMate cX12_likesMate 2 (some .int) (.inr (some (.int r))) hz V) (s0 : Int32) (h : MH) (hK : F_X12_likesMate_30 s0 h = some (r, hz)) : V 30 [] [.int s0] h := by
  unfold F_X12_likesMate_30 at hK
  cases hK
  exact mm_iret C (pc := 30) rfl dX12_likesMate_30 rfl rfl
def F_X12_likesMate (a0 : Option Nat) (a1 : Int32) (h : MH) : Option (Int32 × MH) := (gR h a0 12 35).bind fun v1 => (aI h v1 0 a1).bind fun v5 => if v5 = ((-1) : Int32) then (F_X12_likesMate_30 (0 : Int32) h) else ((gR h a0 12 34).bind fun v15 => (gR h a0 12 35).bind fun v23 => (aI h v23 0 a1).bind fun v27 => (aI h v15 0 (((8 : Int32) * a1) + v27)).bind fun v29 => F_X12_likesMate_30 v29 h)
set_option maxRecDepth 20000 in
set_option maxHeartbeats 4000000 in
theorem S_X12_likesMate {d : Nat} (hd : 1 ≤ d) {a0 : Option Nat} {a1 : Int32} {h : MH} {r : Int32} {hz : MH} (hK : F_X12_likesMate a0 a1 h = some (r, hz)) : mm_M yX12_likesMate cX12_likesMate 2 (some .int) d [va_rf a0, .int a1] h (.inr (some (.int r))) hz := by
  refine mm_ofV (by decide +kernel) (by simp [lg_sl, mm_crf, mm_cti, mm_ctl]) (fun V C => ?_)
  rw [show lv_args 0 [va_rf a0, .int a1] = [(0, va_rf a0), (1, .int a1)] by simp [lv_args, mm_crf, mm_cti, mm_ctl]]
  unfold F_X12_likesMate at hK
  refine mm_aload_n C (pc := 0) 0 dX12_likesMate_0 rfl ?_
  replace hK := mm_bd hK; obtain ⟨v1, e1, hK⟩ := hK
  refine mm_getr C (pc := 1) (k := 35) inGX12 rfl (by decide) wd_2034 dX12_likesMate_1 e1 ?_
  refine mm_iload_n C (pc := 4) 1 dX12_likesMate_4 rfl ?_
  replace hK := mm_bd hK; obtain ⟨v5, e5, hK⟩ := hK
  refine mm_iald C (pc := 5) dX12_likesMate_5 e5 ?_
  refine mm_iconst C (pc := 6) (v := ((-1) : Int32)) dX12_likesMate_6 (by decide) ?_
  refine mm_icmp_ne C (pc := 7) (tgt := 14) dX12_likesMate_7 (by decide) (fun hc => ?_) (fun hc => ?_)
  · replace hK := mm_in hc hK
    refine mm_aload_n C (pc := 14) 0 dX12_likesMate_14 rfl ?_
    replace hK := mm_bd hK; obtain ⟨v15, e15, hK⟩ := hK
    refine mm_getr C (pc := 15) (k := 34) inGX12 rfl (by decide) wd_2033 dX12_likesMate_15 e15 ?_
    refine mm_bipush C (pc := 18) (v := (8 : Int32)) dX12_likesMate_18 (by decide) ?_
    refine mm_iload_n C (pc := 20) 1 dX12_likesMate_20 rfl ?_
    refine mm_imul C (pc := 21) dX12_likesMate_21 ?_
    refine mm_aload_n C (pc := 22) 0 dX12_likesMate_22 rfl ?_
    replace hK := mm_bd hK; obtain ⟨v23, e23, hK⟩ := hK
    refine mm_getr C (pc := 23) (k := 35) inGX12 rfl (by decide) wd_2034 dX12_likesMate_23 e23 ?_
    refine mm_iload_n C (pc := 26) 1 dX12_likesMate_26 rfl ?_
    replace hK := mm_bd hK; obtain ⟨v27, e27, hK⟩ := hK
    refine mm_iald C (pc := 27) dX12_likesMate_27 e27 ?_
    refine mm_iadd C (pc := 28) dX12_likesMate_28 ?_
    replace hK := mm_bd hK; obtain ⟨v29, e29, hK⟩ := hK
    refine mm_iald C (pc := 29) dX12_likesMate_29 e29 ?_
    refine mm_sub C [] rfl ?_
    exact w_X12_likesMate_30 hd C _ _ hK
  · replace hK := mm_ip hc hK
    refine mm_iconst C (pc := 10) (v := (0 : Int32)) dX12_likesMate_10 (by decide) ?_
    refine mm_goto C (pc := 11) (tgt := 30) dX12_likesMate_11 (by decide) ?_
    refine mm_sub C [] rfl ?_
    exact w_X12_likesMate_30 hd C _ _ hK
theorem wd_2630 : Cond.code yX12_likesMate cX12_likesMate 2 (some .int) ∈ lw_good := mm_wd 2630 (by decide +kernel) (by decide +kernel)
theorem tT_X12_likesMate : mm_T yX12_likesMate cX12_likesMate 2 (some .int) 1 := ⟨wd_2630, wd_170, by decide +kernel, by decide +kernel, by decide +kernel, by decide +kernel⟩
theorem wd_2627 : Cond.methodLink RX12 478 yX12_likesMate ∈ lw_good := mm_wd 2627 (by decide +kernel) (by decide +kernel)
theorem wd_2629 : Cond.instanceMethod yX12_likesMate ∈ lw_good := mm_wd 2629 (by decide +kernel) (by decide +kernel)
theorem wd_132 : Cond.selects RX12 yX12_likesMate yX12_likesMate ∈ lw_good := mm_wd 132 (by decide +kernel) (by decide +kernel)
def F_X12_wouldLeave_58 (s0 : Int32) (h : MH) : Option (Int32 × MH) := rZ s0 h
set_option maxRecDepth 20000 in
set_option maxHeartbeats 4000000 in
theorem w_X12_wouldLeave_58 {d : Nat} {V : Nat → List (Nat × Value) → List Value → MH → Prop} {r : Int32} {hz : MH} (hd : 2 ≤ d) (C : mm_C d yX12_wouldLeave cX12_wouldLeave 3 (some .boolean) (.inr (some (.int r))) hz V) (s0 : Int32) (h : MH) (hK : F_X12_wouldLeave_58 s0 h = some (r, hz)) : V 58 [] [.int s0] h := by
  unfold F_X12_wouldLeave_58 at hK
  replace hK := rZ_some hK; obtain ⟨hv58, hK⟩ := hK
  cases hK
  exact mm_zret C (pc := 58) rfl (mm_nrZ hv58) dX12_wouldLeave_58 rfl rfl
def F_X12_wouldLeave_57 (h : MH) : Option (Int32 × MH) := F_X12_wouldLeave_58 (0 : Int32) h
set_option maxRecDepth 20000 in
set_option maxHeartbeats 4000000 in
theorem w_X12_wouldLeave_57 {d : Nat} {V : Nat → List (Nat × Value) → List Value → MH → Prop} {r : Int32} {hz : MH} (hd : 2 ≤ d) (C : mm_C d yX12_wouldLeave cX12_wouldLeave 3 (some .boolean) (.inr (some (.int r))) hz V) (h : MH) (hK : F_X12_wouldLeave_57  h = some (r, hz)) : V 57 [] [] h := by
  unfold F_X12_wouldLeave_57 at hK
  refine mm_iconst C (pc := 57) (v := (0 : Int32)) dX12_wouldLeave_57 (by decide) ?_
  exact w_X12_wouldLeave_58 hd C _ _ hK
def F_X12_wouldLeave (a0 : Option Nat) (a1 : Int32) (a2 : Int32) (h : MH) : Option (Int32 × MH) := if a1 = a2 then (F_X12_wouldLeave_57 h) else ((gR h a0 12 35).bind fun v6 => (aI h v6 0 a1).bind fun v10 => if v10 = a2 then (F_X12_wouldLeave_57 h) else ((gR h a0 12 34).bind fun v16 => (aI h v16 0 (((8 : Int32) * a1) + a2)).bind fun v25 => mm_b2 (cV h a0 12 (F_X12_likesMate a0 a1 h)) fun v28 h28 => if v25 ≤ v28 then (F_X12_wouldLeave_57 h28) else ((gR h28 a0 12 34).bind fun v35 => (aI h28 v35 0 (((8 : Int32) * a2) + a1)).bind fun v44 => mm_b2 (cV h28 a0 12 (F_X12_likesMate a0 a2 h28)) fun v47 h47 => if v44 ≤ v47 then (F_X12_wouldLeave_57 h47) else (F_X12_wouldLeave_58 (1 : Int32) h47))))
set_option maxRecDepth 20000 in
set_option maxHeartbeats 4000000 in
theorem S_X12_wouldLeave {d : Nat} (hd : 2 ≤ d) {a0 : Option Nat} {a1 : Int32} {a2 : Int32} {h : MH} {r : Int32} {hz : MH} (hK : F_X12_wouldLeave a0 a1 a2 h = some (r, hz)) : mm_M yX12_wouldLeave cX12_wouldLeave 3 (some .boolean) d [va_rf a0, .int a1, .int a2] h (.inr (some (.int r))) hz := by
  refine mm_ofV (by decide +kernel) (by simp [lg_sl, mm_crf, mm_cti, mm_ctl]) (fun V C => ?_)
  rw [show lv_args 0 [va_rf a0, .int a1, .int a2] = [(0, va_rf a0), (1, .int a1), (2, .int a2)] by simp [lv_args, mm_crf, mm_cti, mm_ctl]]
  unfold F_X12_wouldLeave at hK
  refine mm_iload_n C (pc := 0) 1 dX12_wouldLeave_0 rfl ?_
  refine mm_iload_n C (pc := 1) 2 dX12_wouldLeave_1 rfl ?_
  refine mm_icmp_eq C (pc := 2) (tgt := 57) dX12_wouldLeave_2 (by decide) (fun hc => ?_) (fun hc => ?_)
  · replace hK := mm_ip hc hK
    refine mm_sub C [] rfl ?_
    exact w_X12_wouldLeave_57 hd C _ hK
  · replace hK := mm_in hc hK
    refine mm_aload_n C (pc := 5) 0 dX12_wouldLeave_5 rfl ?_
    replace hK := mm_bd hK; obtain ⟨v6, e6, hK⟩ := hK
    refine mm_getr C (pc := 6) (k := 35) inGX12 rfl (by decide) wd_2034 dX12_wouldLeave_6 e6 ?_
    refine mm_iload_n C (pc := 9) 1 dX12_wouldLeave_9 rfl ?_
    replace hK := mm_bd hK; obtain ⟨v10, e10, hK⟩ := hK
    refine mm_iald C (pc := 10) dX12_wouldLeave_10 e10 ?_
    refine mm_iload_n C (pc := 11) 2 dX12_wouldLeave_11 rfl ?_
    refine mm_icmp_eq C (pc := 12) (tgt := 57) dX12_wouldLeave_12 (by decide) (fun hc => ?_) (fun hc => ?_)
    · replace hK := mm_ip hc hK
      refine mm_sub C [] rfl ?_
      exact w_X12_wouldLeave_57 hd C _ hK
    · replace hK := mm_in hc hK
      refine mm_aload_n C (pc := 15) 0 dX12_wouldLeave_15 rfl ?_
      replace hK := mm_bd hK; obtain ⟨v16, e16, hK⟩ := hK
      refine mm_getr C (pc := 16) (k := 34) inGX12 rfl (by decide) wd_2033 dX12_wouldLeave_16 e16 ?_
      refine mm_bipush C (pc := 19) (v := (8 : Int32)) dX12_wouldLeave_19 (by decide) ?_
      refine mm_iload_n C (pc := 21) 1 dX12_wouldLeave_21 rfl ?_
      refine mm_imul C (pc := 22) dX12_wouldLeave_22 ?_
      refine mm_iload_n C (pc := 23) 2 dX12_wouldLeave_23 rfl ?_
      refine mm_iadd C (pc := 24) dX12_wouldLeave_24 ?_
      replace hK := mm_bd hK; obtain ⟨v25, e25, hK⟩ := hK
      refine mm_iald C (pc := 25) dX12_wouldLeave_25 e25 ?_
      refine mm_aload_n C (pc := 26) 0 dX12_wouldLeave_26 rfl ?_
      refine mm_iload_n C (pc := 27) 1 dX12_wouldLeave_27 rfl ?_
      replace hK := mm_b2s hK; obtain ⟨v28, h28, e28, hK⟩ := hK
      obtain ⟨o28, e28⟩ := cV_some e28
      refine mm_callV C (pc := 28) (d1 := 1) (As := [.int a1]) (st := [.int v25]) (vk := (some (.int v28))) ((S_X12_likesMate (by omega)) e28) tT_X12_likesMate o28 (Or.inr ⟨_, rfl, rfl⟩) wd_2627 wd_2629 wd_132 (by omega) (by decide) rfl (by simp [mm_crf, mm_cti, mm_ctl]) rfl dX12_wouldLeave_28 ?_
      show V _ _ (.int v28 :: _) _
      refine mm_icmp_le C (pc := 31) (tgt := 57) dX12_wouldLeave_31 (by decide) (fun hc => ?_) (fun hc => ?_)
      · replace hK := mm_ip hc hK
        refine mm_sub C [] rfl ?_
        exact w_X12_wouldLeave_57 hd C _ hK
      · replace hK := mm_in hc hK
        refine mm_aload_n C (pc := 34) 0 dX12_wouldLeave_34 rfl ?_
        replace hK := mm_bd hK; obtain ⟨v35, e35, hK⟩ := hK
        refine mm_getr C (pc := 35) (k := 34) inGX12 rfl (by decide) wd_2033 dX12_wouldLeave_35 e35 ?_
        refine mm_bipush C (pc := 38) (v := (8 : Int32)) dX12_wouldLeave_38 (by decide) ?_
        refine mm_iload_n C (pc := 40) 2 dX12_wouldLeave_40 rfl ?_
        refine mm_imul C (pc := 41) dX12_wouldLeave_41 ?_
        refine mm_iload_n C (pc := 42) 1 dX12_wouldLeave_42 rfl ?_
        refine mm_iadd C (pc := 43) dX12_wouldLeave_43 ?_
        replace hK := mm_bd hK; obtain ⟨v44, e44, hK⟩ := hK
        refine mm_iald C (pc := 44) dX12_wouldLeave_44 e44 ?_
        refine mm_aload_n C (pc := 45) 0 dX12_wouldLeave_45 rfl ?_
        refine mm_iload_n C (pc := 46) 2 dX12_wouldLeave_46 rfl ?_
        replace hK := mm_b2s hK; obtain ⟨v47, h47, e47, hK⟩ := hK
        obtain ⟨o47, e47⟩ := cV_some e47
        refine mm_callV C (pc := 47) (d1 := 1) (As := [.int a2]) (st := [.int v44]) (vk := (some (.int v47))) ((S_X12_likesMate (by omega)) e47) tT_X12_likesMate o47 (Or.inr ⟨_, rfl, rfl⟩) wd_2627 wd_2629 wd_132 (by omega) (by decide) rfl (by simp [mm_crf, mm_cti, mm_ctl]) rfl dX12_wouldLeave_47 ?_
        show V _ _ (.int v47 :: _) _
        refine mm_icmp_le C (pc := 50) (tgt := 57) dX12_wouldLeave_50 (by decide) (fun hc => ?_) (fun hc => ?_)
        · replace hK := mm_ip hc hK
          refine mm_sub C [] rfl ?_
          exact w_X12_wouldLeave_57 hd C _ hK
        · replace hK := mm_in hc hK
          refine mm_iconst C (pc := 53) (v := (1 : Int32)) dX12_wouldLeave_53 (by decide) ?_
          refine mm_goto C (pc := 54) (tgt := 58) dX12_wouldLeave_54 (by decide) ?_
          refine mm_sub C [] rfl ?_
          exact w_X12_wouldLeave_58 hd C _ _ hK
theorem wd_2638 : Cond.code yX12_wouldLeave cX12_wouldLeave 3 (some .boolean) ∈ lw_good := mm_wd 2638 (by decide +kernel) (by decide +kernel)
theorem tT_X12_wouldLeave : mm_T yX12_wouldLeave cX12_wouldLeave 3 (some .boolean) 2 := ⟨wd_2638, wd_170, by decide +kernel, by decide +kernel, by decide +kernel, by decide +kernel⟩
theorem wd_2635 : Cond.methodLink RX12 481 yX12_wouldLeave ∈ lw_good := mm_wd 2635 (by decide +kernel) (by decide +kernel)
theorem wd_2637 : Cond.instanceMethod yX12_wouldLeave ∈ lw_good := mm_wd 2637 (by decide +kernel) (by decide +kernel)
theorem wd_134 : Cond.selects RX12 yX12_wouldLeave yX12_wouldLeave ∈ lw_good := mm_wd 134 (by decide +kernel) (by decide +kernel)
def F_X12_firstLeaving_16 (k2 : Option Nat → Int32 → MH → Option (Int32 × MH)) : Nat → Option Nat → Int32 → Int32 → MH → Option (Int32 × MH)
  | 0 => fun _ _ _ _ => none
  | n + 1 => fun l0 l1 l2 h => (gR h l0 12 0).bind fun v18 => (aI h v18 0 (1 : Int32)).bind fun v22 => if v22 ≤ l2 then (k2 l0 (l1 + (1 : Int32)) h) else (mm_b2 (cV h l0 12 (F_X12_wouldLeave l0 l1 l2 h)) fun v29 h29 => if v29 = 0 then (F_X12_firstLeaving_16 k2 n l0 l1 (l2 + (1 : Int32)) h29) else (some ((((10 : Int32) * l1) + l2), h29)))
set_option maxRecDepth 20000 in
set_option maxHeartbeats 4000000 in
theorem w_X12_firstLeaving_16 {d : Nat} {V : Nat → List (Nat × Value) → List Value → MH → Prop} {r : Int32} {hz : MH} {k2 : Option Nat → Int32 → MH → Option (Int32 × MH)} (hd : 3 ≤ d) (C : mm_C d yX12_firstLeaving cX12_firstLeaving 3 (some .int) (.inr (some (.int r))) hz V) (q2 : ∀ (x0 : Option Nat) (x1 : Int32) (h : MH), k2 x0 x1 h = some (r, hz) → V 2 [(0, va_rf x0), (1, .int x1)] [] h) : ∀ (n : Nat) (l0 : Option Nat) (l1 : Int32) (l2 : Int32) (h : MH), F_X12_firstLeaving_16 k2 n l0 l1 l2 h = some (r, hz) → V 16 [(0, va_rf l0), (1, .int l1), (2, .int l2)] [] h := by
  intro n
  induction n with
  | zero => intro l0 l1 l2 h hK; cases hK
  | succ n ih =>
    intro l0 l1 l2 h hK
    replace hK : ((gR h l0 12 0).bind fun v18 => (aI h v18 0 (1 : Int32)).bind fun v22 => if v22 ≤ l2 then (k2 l0 (l1 + (1 : Int32)) h) else (mm_b2 (cV h l0 12 (F_X12_wouldLeave l0 l1 l2 h)) fun v29 h29 => if v29 = 0 then (F_X12_firstLeaving_16 k2 n l0 l1 (l2 + (1 : Int32)) h29) else (some ((((10 : Int32) * l1) + l2), h29)))) = some (r, hz) := hK
    refine mm_iload_n C (pc := 16) 2 dX12_firstLeaving_16 rfl ?_
    refine mm_aload_n C (pc := 17) 0 dX12_firstLeaving_17 rfl ?_
    replace hK := mm_bd hK; obtain ⟨v18, e18, hK⟩ := hK
    refine mm_getr C (pc := 18) (k := 0) inGX12 rfl (by decide) wd_1999 dX12_firstLeaving_18 e18 ?_
    refine mm_iconst C (pc := 21) (v := (1 : Int32)) dX12_firstLeaving_21 (by decide) ?_
    replace hK := mm_bd hK; obtain ⟨v22, e22, hK⟩ := hK
    refine mm_iald C (pc := 22) dX12_firstLeaving_22 e22 ?_
    refine mm_icmp_ge C (pc := 23) (tgt := 48) dX12_firstLeaving_23 (by decide) (fun hc => ?_) (fun hc => ?_)
    · replace hK := mm_ip hc hK
      refine mm_iinc C (pc := 48) (v := (l1 + (1 : Int32))) (lv' := [(1, .int (l1 + (1 : Int32))), (0, va_rf l0), (2, .int l2)]) 1 dX12_firstLeaving_48 rfl rfl (by decide) (by simp [mm_crf]) ?_
      refine mm_goto C (pc := 51) (tgt := 2) dX12_firstLeaving_51 (by decide) ?_
      refine mm_sub C [1, 0] rfl ?_
      exact q2 _ _ _ hK
    · replace hK := mm_in hc hK
      refine mm_aload_n C (pc := 26) 0 dX12_firstLeaving_26 rfl ?_
      refine mm_iload_n C (pc := 27) 1 dX12_firstLeaving_27 rfl ?_
      refine mm_iload_n C (pc := 28) 2 dX12_firstLeaving_28 rfl ?_
      replace hK := mm_b2s hK; obtain ⟨v29, h29, e29, hK⟩ := hK
      obtain ⟨o29, e29⟩ := cV_some e29
      refine mm_callV C (pc := 29) (d1 := 2) (As := [.int l1, .int l2]) (st := []) (vk := (some (.int v29))) ((S_X12_wouldLeave (by omega)) e29) tT_X12_wouldLeave o29 (Or.inr ⟨_, rfl, rfl⟩) wd_2635 wd_2637 wd_134 (by omega) (by decide) rfl (by simp [mm_crf, mm_cti, mm_ctl]) rfl dX12_firstLeaving_29 ?_
      show V _ _ (.int v29 :: _) _
      refine mm_if_eq C (pc := 32) (tgt := 42) dX12_firstLeaving_32 (by decide) (fun hc => ?_) (fun hc => ?_)
      · replace hK := mm_ip hc hK
        refine mm_iinc C (pc := 42) (v := (l2 + (1 : Int32))) (lv' := [(2, .int (l2 + (1 : Int32))), (0, va_rf l0), (1, .int l1)]) 2 dX12_firstLeaving_42 rfl rfl (by decide) rfl ?_
        refine mm_goto C (pc := 45) (tgt := 16) dX12_firstLeaving_45 (by decide) ?_
        refine mm_sub C [1, 2, 0] rfl ?_
        exact ih _ _ _ _ hK
      · replace hK := mm_in hc hK
        refine mm_bipush C (pc := 35) (v := (10 : Int32)) dX12_firstLeaving_35 (by decide) ?_
        refine mm_iload_n C (pc := 37) 1 dX12_firstLeaving_37 rfl ?_
        refine mm_imul C (pc := 38) dX12_firstLeaving_38 ?_
        refine mm_iload_n C (pc := 39) 2 dX12_firstLeaving_39 rfl ?_
        refine mm_iadd C (pc := 40) dX12_firstLeaving_40 ?_
        cases hK
        exact mm_iret C (pc := 41) rfl dX12_firstLeaving_41 rfl rfl
def F_X12_firstLeaving_2 : Nat → Option Nat → Int32 → MH → Option (Int32 × MH)
  | 0 => fun _ _ _ => none
  | n + 1 => fun l0 l1 h => (gR h l0 12 0).bind fun v4 => (aI h v4 0 (1 : Int32)).bind fun v8 => if v8 ≤ l1 then (some (((-1) : Int32), h)) else (F_X12_firstLeaving_16 (F_X12_firstLeaving_2 n) mm_N l0 l1 (l1 + (1 : Int32)) h)
set_option maxRecDepth 20000 in
set_option maxHeartbeats 4000000 in
theorem w_X12_firstLeaving_2 {d : Nat} {V : Nat → List (Nat × Value) → List Value → MH → Prop} {r : Int32} {hz : MH} (hd : 3 ≤ d) (C : mm_C d yX12_firstLeaving cX12_firstLeaving 3 (some .int) (.inr (some (.int r))) hz V) : ∀ (n : Nat) (l0 : Option Nat) (l1 : Int32) (h : MH), F_X12_firstLeaving_2 n l0 l1 h = some (r, hz) → V 2 [(0, va_rf l0), (1, .int l1)] [] h := by
  intro n
  induction n with
  | zero => intro l0 l1 h hK; cases hK
  | succ n ih =>
    intro l0 l1 h hK
    replace hK : ((gR h l0 12 0).bind fun v4 => (aI h v4 0 (1 : Int32)).bind fun v8 => if v8 ≤ l1 then (some (((-1) : Int32), h)) else (F_X12_firstLeaving_16 (F_X12_firstLeaving_2 n) mm_N l0 l1 (l1 + (1 : Int32)) h)) = some (r, hz) := hK
    refine mm_iload_n C (pc := 2) 1 dX12_firstLeaving_2 rfl ?_
    refine mm_aload_n C (pc := 3) 0 dX12_firstLeaving_3 rfl ?_
    replace hK := mm_bd hK; obtain ⟨v4, e4, hK⟩ := hK
    refine mm_getr C (pc := 4) (k := 0) inGX12 rfl (by decide) wd_1999 dX12_firstLeaving_4 e4 ?_
    refine mm_iconst C (pc := 7) (v := (1 : Int32)) dX12_firstLeaving_7 (by decide) ?_
    replace hK := mm_bd hK; obtain ⟨v8, e8, hK⟩ := hK
    refine mm_iald C (pc := 8) dX12_firstLeaving_8 e8 ?_
    refine mm_icmp_ge C (pc := 9) (tgt := 54) dX12_firstLeaving_9 (by decide) (fun hc => ?_) (fun hc => ?_)
    · replace hK := mm_ip hc hK
      refine mm_iconst C (pc := 54) (v := ((-1) : Int32)) dX12_firstLeaving_54 (by decide) ?_
      cases hK
      exact mm_iret C (pc := 55) rfl dX12_firstLeaving_55 rfl rfl
    · replace hK := mm_in hc hK
      refine mm_iload_n C (pc := 12) 1 dX12_firstLeaving_12 rfl ?_
      refine mm_iconst C (pc := 13) (v := (1 : Int32)) dX12_firstLeaving_13 (by decide) ?_
      refine mm_iadd C (pc := 14) dX12_firstLeaving_14 ?_
      refine mm_istore_n C (pc := 15) (i := 2) (lv' := [(2, .int (l1 + (1 : Int32))), (0, va_rf l0), (1, .int l1)]) dX12_firstLeaving_15 rfl (by decide) rfl ?_
      refine mm_sub C [1, 2, 0] rfl ?_
      exact w_X12_firstLeaving_16 hd C (fun z0 z1 z2 hK => ih z0 z1 z2 hK) _ _ _ _ _ hK
def F_X12_firstLeaving (a0 : Option Nat) (h : MH) : Option (Int32 × MH) := F_X12_firstLeaving_2 mm_N a0 (0 : Int32) h
set_option maxRecDepth 20000 in
set_option maxHeartbeats 4000000 in
theorem S_X12_firstLeaving {d : Nat} (hd : 3 ≤ d) {a0 : Option Nat} {h : MH} {r : Int32} {hz : MH} (hK : F_X12_firstLeaving a0 h = some (r, hz)) : mm_M yX12_firstLeaving cX12_firstLeaving 3 (some .int) d [va_rf a0] h (.inr (some (.int r))) hz := by
  refine mm_ofV (by decide +kernel) (by simp [lg_sl, mm_crf, mm_cti, mm_ctl]) (fun V C => ?_)
  rw [show lv_args 0 [va_rf a0] = [(0, va_rf a0)] by simp [lv_args, mm_crf, mm_cti, mm_ctl]]
  unfold F_X12_firstLeaving at hK
  refine mm_iconst C (pc := 0) (v := (0 : Int32)) dX12_firstLeaving_0 (by decide) ?_
  refine mm_istore_n C (pc := 1) (i := 1) (lv' := [(1, .int (0 : Int32)), (0, va_rf a0)]) dX12_firstLeaving_1 rfl (by decide) (by simp [mm_crf]) ?_
  refine mm_sub C [1, 0] rfl ?_
  exact w_X12_firstLeaving_2 hd C _ _ _ _ hK
theorem wd_2038 : Cond.fieldLink RX12 484 "CrossedLinesModel" "happiness" "J" ∈ lw_good := mm_wd 2038 (by decide +kernel) (by decide +kernel)
theorem wd_2634 : Cond.code yX12_firstLeaving cX12_firstLeaving 3 (some .int) ∈ lw_good := mm_wd 2634 (by decide +kernel) (by decide +kernel)
theorem tT_X12_firstLeaving : mm_T yX12_firstLeaving cX12_firstLeaving 3 (some .int) 0 := ⟨wd_2634, wd_170, by decide +kernel, by decide +kernel, by decide +kernel, by decide +kernel⟩
theorem wd_2631 : Cond.methodLink RX12 488 yX12_firstLeaving ∈ lw_good := mm_wd 2631 (by decide +kernel) (by decide +kernel)
theorem wd_2633 : Cond.instanceMethod yX12_firstLeaving ∈ lw_good := mm_wd 2633 (by decide +kernel) (by decide +kernel)
theorem wd_133 : Cond.selects RX12 yX12_firstLeaving yX12_firstLeaving ∈ lw_good := mm_wd 133 (by decide +kernel) (by decide +kernel)
theorem wd_2037 : Cond.fieldLink RX12 491 "CrossedLinesModel" "stables" "I" ∈ lw_good := mm_wd 2037 (by decide +kernel) (by decide +kernel)
def F_X12_sees_122 (h : MH) : Option MH := some h
set_option maxRecDepth 20000 in
set_option maxHeartbeats 4000000 in
theorem w_X12_sees_122 {d : Nat} {V : Nat → List (Nat × Value) → List Value → MH → Prop} {hz : MH} (hd : 4 ≤ d) (C : mm_C d yX12_sees cX12_sees 4 none (.inr none) hz V) (h : MH) (hK : F_X12_sees_122  h = some hz) : V 122 [] [] h := by
  unfold F_X12_sees_122 at hK
  cases hK
  exact mm_vret C (pc := 122) rfl dX12_sees_122 rfl rfl
def F_X12_sees_90 : Nat → Option Nat → Int32 → MH → Option MH
  | 0 => fun _ _ _ => none
  | n + 1 => fun l0 l3 h => if (8 : Int32) ≤ l3 then (F_X12_sees_122 h) else ((gI h l0 12 38).bind fun v97 => if v97 = (1 : Int32) then ((gR h l0 12 36).bind fun v105 => (gR h l0 12 35).bind fun v110 => (aI h v110 0 l3).bind fun v114 => (sI h v105 0 l3 v114).bind fun h115 => F_X12_sees_90 n l0 (l3 + (1 : Int32)) h115) else (F_X12_sees_122 h))
set_option maxRecDepth 20000 in
set_option maxHeartbeats 4000000 in
theorem w_X12_sees_90 {d : Nat} {V : Nat → List (Nat × Value) → List Value → MH → Prop} {hz : MH} (hd : 4 ≤ d) (C : mm_C d yX12_sees cX12_sees 4 none (.inr none) hz V) : ∀ (n : Nat) (l0 : Option Nat) (l3 : Int32) (h : MH), F_X12_sees_90 n l0 l3 h = some hz → V 90 [(0, va_rf l0), (3, .int l3)] [] h := by
  intro n
  induction n with
  | zero => intro l0 l3 h hK; cases hK
  | succ n ih =>
    intro l0 l3 h hK
    replace hK : (if (8 : Int32) ≤ l3 then (F_X12_sees_122 h) else ((gI h l0 12 38).bind fun v97 => if v97 = (1 : Int32) then ((gR h l0 12 36).bind fun v105 => (gR h l0 12 35).bind fun v110 => (aI h v110 0 l3).bind fun v114 => (sI h v105 0 l3 v114).bind fun h115 => F_X12_sees_90 n l0 (l3 + (1 : Int32)) h115) else (F_X12_sees_122 h))) = some hz := hK
    refine mm_iload_n C (pc := 90) 1 dX12_sees_90 rfl ?_
    refine mm_bipush C (pc := 91) (v := (8 : Int32)) dX12_sees_91 (by decide) ?_
    refine mm_icmp_ge C (pc := 93) (tgt := 122) dX12_sees_93 (by decide) (fun hc => ?_) (fun hc => ?_)
    · replace hK := mm_ip hc hK
      refine mm_sub C [] rfl ?_
      exact w_X12_sees_122 hd C _ hK
    · replace hK := mm_in hc hK
      refine mm_aload_n C (pc := 96) 0 dX12_sees_96 rfl ?_
      replace hK := mm_bd hK; obtain ⟨v97, e97, hK⟩ := hK
      refine mm_geti C (pc := 97) (k := 38) inGX12 rfl (by decide) wd_2037 dX12_sees_97 e97 ?_
      refine mm_iconst C (pc := 100) (v := (1 : Int32)) dX12_sees_100 (by decide) ?_
      refine mm_icmp_ne C (pc := 101) (tgt := 122) dX12_sees_101 (by decide) (fun hc => ?_) (fun hc => ?_)
      · replace hK := mm_in hc hK
        refine mm_sub C [] rfl ?_
        exact w_X12_sees_122 hd C _ hK
      · replace hK := mm_ip hc hK
        refine mm_aload_n C (pc := 104) 0 dX12_sees_104 rfl ?_
        replace hK := mm_bd hK; obtain ⟨v105, e105, hK⟩ := hK
        refine mm_getr C (pc := 105) (k := 36) inGX12 rfl (by decide) wd_2035 dX12_sees_105 e105 ?_
        refine mm_iload_n C (pc := 108) 1 dX12_sees_108 rfl ?_
        refine mm_aload_n C (pc := 109) 0 dX12_sees_109 rfl ?_
        replace hK := mm_bd hK; obtain ⟨v110, e110, hK⟩ := hK
        refine mm_getr C (pc := 110) (k := 35) inGX12 rfl (by decide) wd_2034 dX12_sees_110 e110 ?_
        refine mm_iload_n C (pc := 113) 1 dX12_sees_113 rfl ?_
        replace hK := mm_bd hK; obtain ⟨v114, e114, hK⟩ := hK
        refine mm_iald C (pc := 114) dX12_sees_114 e114 ?_
        replace hK := mm_bd hK; obtain ⟨h115, e115, hK⟩ := hK
        refine mm_iast C (pc := 115) dX12_sees_115 e115 ?_
        refine mm_iinc C (pc := 116) (v := (l3 + (1 : Int32))) (lv' := [(3, .int (l3 + (1 : Int32))), (0, va_rf l0)]) 1 dX12_sees_116 rfl rfl (by decide) rfl ?_
        refine mm_goto C (pc := 119) (tgt := 90) dX12_sees_119 (by decide) ?_
        refine mm_sub C [1, 0] rfl ?_
        exact ih _ _ _ hK
def F_X12_sees_69 (l0 : Option Nat) (h : MH) : Option MH := mm_b2 (cV h l0 12 (F_X12_firstLeaving l0 h)) fun v70 h70 => if v70 = ((-1) : Int32) then ((gI h70 l0 12 38).bind fun v80 => (pI h70 l0 12 38 (v80 + (1 : Int32))).bind fun h85 => F_X12_sees_90 mm_N l0 (0 : Int32) h85) else (some h70)
set_option maxRecDepth 20000 in
set_option maxHeartbeats 4000000 in
theorem w_X12_sees_69 {d : Nat} {V : Nat → List (Nat × Value) → List Value → MH → Prop} {hz : MH} (hd : 4 ≤ d) (C : mm_C d yX12_sees cX12_sees 4 none (.inr none) hz V) (l0 : Option Nat) (h : MH) (hK : F_X12_sees_69 l0 h = some hz) : V 69 [(0, va_rf l0)] [] h := by
  unfold F_X12_sees_69 at hK
  refine mm_aload_n C (pc := 69) 0 dX12_sees_69 rfl ?_
  replace hK := mm_b2s hK; obtain ⟨v70, h70, e70, hK⟩ := hK
  obtain ⟨o70, e70⟩ := cV_some e70
  refine mm_callV C (pc := 70) (d1 := 3) (As := []) (st := []) (vk := (some (.int v70))) ((S_X12_firstLeaving (by omega)) e70) tT_X12_firstLeaving o70 (Or.inr ⟨_, rfl, rfl⟩) wd_2631 wd_2633 wd_133 (by omega) (by decide) rfl (by simp [mm_crf, mm_cti, mm_ctl]) rfl dX12_sees_70 ?_
  show V _ _ (.int v70 :: _) _
  refine mm_iconst C (pc := 73) (v := ((-1) : Int32)) dX12_sees_73 (by decide) ?_
  refine mm_icmp_eq C (pc := 74) (tgt := 78) dX12_sees_74 (by decide) (fun hc => ?_) (fun hc => ?_)
  · replace hK := mm_ip hc hK
    refine mm_aload_n C (pc := 78) 0 dX12_sees_78 rfl ?_
    refine mm_dup C (pc := 79) dX12_sees_79 mm_crf ?_
    replace hK := mm_bd hK; obtain ⟨v80, e80, hK⟩ := hK
    refine mm_geti C (pc := 80) (k := 38) inGX12 rfl (by decide) wd_2037 dX12_sees_80 e80 ?_
    refine mm_iconst C (pc := 83) (v := (1 : Int32)) dX12_sees_83 (by decide) ?_
    refine mm_iadd C (pc := 84) dX12_sees_84 ?_
    replace hK := mm_bd hK; obtain ⟨h85, e85, hK⟩ := hK
    refine mm_puti C (pc := 85) (k := 38) false (fun z => by cases z) inGX12 tyX12 tyX12_ok nmX12 rfl (by decide) wd_2037 rfl rfl dX12_sees_85 e85 ?_
    refine mm_iconst C (pc := 88) (v := (0 : Int32)) dX12_sees_88 (by decide) ?_
    refine mm_istore_n C (pc := 89) (i := 3) (lv' := [(3, .int (0 : Int32)), (0, va_rf l0)]) dX12_sees_89 rfl (by decide) rfl ?_
    refine mm_sub C [1, 0] rfl ?_
    exact w_X12_sees_90 hd C _ _ _ _ hK
  · replace hK := mm_in hc hK
    cases hK
    exact mm_vret C (pc := 77) rfl dX12_sees_77 rfl rfl
def F_X12_sees_45 : Nat → Option Nat → Int32 → MH → Option MH
  | 0 => fun _ _ _ => none
  | n + 1 => fun l0 l3 h => if (8 : Int32) ≤ l3 then (F_X12_sees_69 l0 h) else ((gR h l0 12 37).bind fun v52 => (gR h l0 12 35).bind fun v57 => (aI h v57 0 l3).bind fun v61 => (sI h v52 0 l3 v61).bind fun h62 => F_X12_sees_45 n l0 (l3 + (1 : Int32)) h62)
set_option maxRecDepth 20000 in
set_option maxHeartbeats 4000000 in
theorem w_X12_sees_45 {d : Nat} {V : Nat → List (Nat × Value) → List Value → MH → Prop} {hz : MH} (hd : 4 ≤ d) (C : mm_C d yX12_sees cX12_sees 4 none (.inr none) hz V) : ∀ (n : Nat) (l0 : Option Nat) (l3 : Int32) (h : MH), F_X12_sees_45 n l0 l3 h = some hz → V 45 [(0, va_rf l0), (3, .int l3)] [] h := by
  intro n
  induction n with
  | zero => intro l0 l3 h hK; cases hK
  | succ n ih =>
    intro l0 l3 h hK
    replace hK : (if (8 : Int32) ≤ l3 then (F_X12_sees_69 l0 h) else ((gR h l0 12 37).bind fun v52 => (gR h l0 12 35).bind fun v57 => (aI h v57 0 l3).bind fun v61 => (sI h v52 0 l3 v61).bind fun h62 => F_X12_sees_45 n l0 (l3 + (1 : Int32)) h62)) = some hz := hK
    refine mm_iload_n C (pc := 45) 1 dX12_sees_45 rfl ?_
    refine mm_bipush C (pc := 46) (v := (8 : Int32)) dX12_sees_46 (by decide) ?_
    refine mm_icmp_ge C (pc := 48) (tgt := 69) dX12_sees_48 (by decide) (fun hc => ?_) (fun hc => ?_)
    · replace hK := mm_ip hc hK
      refine mm_sub C [0] rfl ?_
      exact w_X12_sees_69 hd C _ _ hK
    · replace hK := mm_in hc hK
      refine mm_aload_n C (pc := 51) 0 dX12_sees_51 rfl ?_
      replace hK := mm_bd hK; obtain ⟨v52, e52, hK⟩ := hK
      refine mm_getr C (pc := 52) (k := 37) inGX12 rfl (by decide) wd_2036 dX12_sees_52 e52 ?_
      refine mm_iload_n C (pc := 55) 1 dX12_sees_55 rfl ?_
      refine mm_aload_n C (pc := 56) 0 dX12_sees_56 rfl ?_
      replace hK := mm_bd hK; obtain ⟨v57, e57, hK⟩ := hK
      refine mm_getr C (pc := 57) (k := 35) inGX12 rfl (by decide) wd_2034 dX12_sees_57 e57 ?_
      refine mm_iload_n C (pc := 60) 1 dX12_sees_60 rfl ?_
      replace hK := mm_bd hK; obtain ⟨v61, e61, hK⟩ := hK
      refine mm_iald C (pc := 61) dX12_sees_61 e61 ?_
      replace hK := mm_bd hK; obtain ⟨h62, e62, hK⟩ := hK
      refine mm_iast C (pc := 62) dX12_sees_62 e62 ?_
      refine mm_iinc C (pc := 63) (v := (l3 + (1 : Int32))) (lv' := [(3, .int (l3 + (1 : Int32))), (0, va_rf l0)]) 1 dX12_sees_63 rfl rfl (by decide) rfl ?_
      refine mm_goto C (pc := 66) (tgt := 45) dX12_sees_66 (by decide) ?_
      refine mm_sub C [1, 0] rfl ?_
      exact ih _ _ _ hK
def F_X12_sees_4 : Nat → Option Nat → Int64 → Int32 → MH → Option MH
  | 0 => fun _ _ _ _ => none
  | n + 1 => fun l0 l1 l3 h => (gR h l0 12 0).bind fun v6 => (aI h v6 0 (1 : Int32)).bind fun v10 => if v10 ≤ l3 then ((gL h l0 12 39).bind fun v31 => if (lg_cmp l1 v31) ≤ 0 then (F_X12_sees_69 l0 h) else ((pL h l0 12 39 l1).bind fun h40 => F_X12_sees_45 mm_N l0 (0 : Int32) h40)) else (mm_b2 (cV h l0 12 (F_X12_likesMate l0 l3 h)) fun v17 h17 => F_X12_sees_4 n l0 (l1 + (v17.toInt64)) (l3 + (1 : Int32)) h17)
set_option maxRecDepth 20000 in
set_option maxHeartbeats 4000000 in
theorem w_X12_sees_4 {d : Nat} {V : Nat → List (Nat × Value) → List Value → MH → Prop} {hz : MH} (hd : 4 ≤ d) (C : mm_C d yX12_sees cX12_sees 4 none (.inr none) hz V) : ∀ (n : Nat) (l0 : Option Nat) (l1 : Int64) (l3 : Int32) (h : MH), F_X12_sees_4 n l0 l1 l3 h = some hz → V 4 [(0, va_rf l0), (1, .long l1), (3, .int l3)] [] h := by
  intro n
  induction n with
  | zero => intro l0 l1 l3 h hK; cases hK
  | succ n ih =>
    intro l0 l1 l3 h hK
    replace hK : ((gR h l0 12 0).bind fun v6 => (aI h v6 0 (1 : Int32)).bind fun v10 => if v10 ≤ l3 then ((gL h l0 12 39).bind fun v31 => if (lg_cmp l1 v31) ≤ 0 then (F_X12_sees_69 l0 h) else ((pL h l0 12 39 l1).bind fun h40 => F_X12_sees_45 mm_N l0 (0 : Int32) h40)) else (mm_b2 (cV h l0 12 (F_X12_likesMate l0 l3 h)) fun v17 h17 => F_X12_sees_4 n l0 (l1 + (v17.toInt64)) (l3 + (1 : Int32)) h17)) = some hz := hK
    refine mm_iload_n C (pc := 4) 2 dX12_sees_4 rfl ?_
    refine mm_aload_n C (pc := 5) 0 dX12_sees_5 rfl ?_
    replace hK := mm_bd hK; obtain ⟨v6, e6, hK⟩ := hK
    refine mm_getr C (pc := 6) (k := 0) inGX12 rfl (by decide) wd_1999 dX12_sees_6 e6 ?_
    refine mm_iconst C (pc := 9) (v := (1 : Int32)) dX12_sees_9 (by decide) ?_
    replace hK := mm_bd hK; obtain ⟨v10, e10, hK⟩ := hK
    refine mm_iald C (pc := 10) dX12_sees_10 e10 ?_
    refine mm_icmp_ge C (pc := 11) (tgt := 29) dX12_sees_11 (by decide) (fun hc => ?_) (fun hc => ?_)
    · replace hK := mm_ip hc hK
      refine mm_lload_n C (pc := 29) 1 dX12_sees_29 rfl ?_
      refine mm_aload_n C (pc := 30) 0 dX12_sees_30 rfl ?_
      replace hK := mm_bd hK; obtain ⟨v31, e31, hK⟩ := hK
      refine mm_getl C (pc := 31) (k := 39) inGX12 rfl (by decide) wd_2038 dX12_sees_31 e31 ?_
      refine mm_lcmp C (pc := 34) dX12_sees_34 ?_
      refine mm_if_le C (pc := 35) (tgt := 69) dX12_sees_35 (by decide) (fun hc => ?_) (fun hc => ?_)
      · replace hK := mm_ip hc hK
        refine mm_sub C [0] rfl ?_
        exact w_X12_sees_69 hd C _ _ hK
      · replace hK := mm_in hc hK
        refine mm_aload_n C (pc := 38) 0 dX12_sees_38 rfl ?_
        refine mm_lload_n C (pc := 39) 1 dX12_sees_39 rfl ?_
        replace hK := mm_bd hK; obtain ⟨h40, e40, hK⟩ := hK
        refine mm_putl C (pc := 40) (k := 39) false (fun z => by cases z) inGX12 tyX12 tyX12_ok nmX12 rfl (by decide) wd_2038 rfl rfl dX12_sees_40 e40 ?_
        refine mm_iconst C (pc := 43) (v := (0 : Int32)) dX12_sees_43 (by decide) ?_
        refine mm_istore_n C (pc := 44) (i := 3) (lv' := [(3, .int (0 : Int32)), (0, va_rf l0), (1, .long l1)]) dX12_sees_44 rfl (by decide) rfl ?_
        refine mm_sub C [1, 0] rfl ?_
        exact w_X12_sees_45 hd C _ _ _ _ hK
    · replace hK := mm_in hc hK
      refine mm_lload_n C (pc := 14) 1 dX12_sees_14 rfl ?_
      refine mm_aload_n C (pc := 15) 0 dX12_sees_15 rfl ?_
      refine mm_iload_n C (pc := 16) 2 dX12_sees_16 rfl ?_
      replace hK := mm_b2s hK; obtain ⟨v17, h17, e17, hK⟩ := hK
      obtain ⟨o17, e17⟩ := cV_some e17
      refine mm_callV C (pc := 17) (d1 := 1) (As := [.int l3]) (st := [.long l1]) (vk := (some (.int v17))) ((S_X12_likesMate (by omega)) e17) tT_X12_likesMate o17 (Or.inr ⟨_, rfl, rfl⟩) wd_2627 wd_2629 wd_132 (by omega) (by decide) rfl (by simp [mm_crf, mm_cti, mm_ctl]) rfl dX12_sees_17 ?_
      show V _ _ (.int v17 :: _) _
      refine mm_i2l C (pc := 20) dX12_sees_20 ?_
      refine mm_ladd C (pc := 21) dX12_sees_21 ?_
      refine mm_lstore_n C (pc := 22) (i := 1) (lv' := [(1, .long (l1 + (v17.toInt64))), (0, va_rf l0), (3, .int l3)]) dX12_sees_22 rfl (by decide) (by simp [mm_crf]) ?_
      refine mm_iinc C (pc := 23) (v := (l3 + (1 : Int32))) (lv' := [(3, .int (l3 + (1 : Int32))), (1, .long (l1 + (v17.toInt64))), (0, va_rf l0)]) 2 dX12_sees_23 rfl rfl (by decide) rfl ?_
      refine mm_goto C (pc := 26) (tgt := 4) dX12_sees_26 (by decide) ?_
      refine mm_sub C [2, 1, 0] rfl ?_
      exact ih _ _ _ _ hK
def F_X12_sees (a0 : Option Nat) (h : MH) : Option MH := F_X12_sees_4 mm_N a0 (0 : Int64) (0 : Int32) h
set_option maxRecDepth 20000 in
set_option maxHeartbeats 4000000 in
theorem S_X12_sees {d : Nat} (hd : 4 ≤ d) {a0 : Option Nat} {h : MH} {hz : MH} (hK : F_X12_sees a0 h = some hz) : mm_M yX12_sees cX12_sees 4 none d [va_rf a0] h (.inr none) hz := by
  refine mm_ofV (by decide +kernel) (by simp [lg_sl, mm_crf, mm_cti, mm_ctl]) (fun V C => ?_)
  rw [show lv_args 0 [va_rf a0] = [(0, va_rf a0)] by simp [lv_args, mm_crf, mm_cti, mm_ctl]]
  unfold F_X12_sees at hK
  refine mm_lconst C (pc := 0) (v := (0 : Int64)) dX12_sees_0 (by decide) ?_
  refine mm_lstore_n C (pc := 1) (i := 1) (lv' := [(1, .long (0 : Int64)), (0, va_rf a0)]) dX12_sees_1 rfl (by decide) (by simp [mm_crf]) ?_
  refine mm_iconst C (pc := 2) (v := (0 : Int32)) dX12_sees_2 (by decide) ?_
  refine mm_istore_n C (pc := 3) (i := 3) (lv' := [(3, .int (0 : Int32)), (1, .long (0 : Int64)), (0, va_rf a0)]) dX12_sees_3 rfl (by decide) rfl ?_
  refine mm_sub C [2, 1, 0] rfl ?_
  exact w_X12_sees_4 hd C _ _ _ _ _ hK
theorem wd_2622 : Cond.code yX12_goesPairs cX12_goesPairs 5 none ∈ lw_good := mm_wd 2622 (by decide +kernel) (by decide +kernel)
theorem tT_X12_goesPairs : mm_T yX12_goesPairs cX12_goesPairs 5 none 2 := ⟨wd_2622, wd_170, by decide +kernel, by decide +kernel, by decide +kernel, by decide +kernel⟩
theorem wd_2619 : Cond.methodLink RX12 497 yX12_goesPairs ∈ lw_good := mm_wd 2619 (by decide +kernel) (by decide +kernel)
theorem wd_2621 : Cond.instanceMethod yX12_goesPairs ∈ lw_good := mm_wd 2621 (by decide +kernel) (by decide +kernel)
theorem wd_130 : Cond.selects RX12 yX12_goesPairs yX12_goesPairs ∈ lw_good := mm_wd 130 (by decide +kernel) (by decide +kernel)
theorem wd_2626 : Cond.code yX12_sees cX12_sees 4 none ∈ lw_good := mm_wd 2626 (by decide +kernel) (by decide +kernel)
theorem tT_X12_sees : mm_T yX12_sees cX12_sees 4 none 0 := ⟨wd_2626, wd_170, by decide +kernel, by decide +kernel, by decide +kernel, by decide +kernel⟩
theorem wd_2623 : Cond.methodLink RX12 494 yX12_sees ∈ lw_good := mm_wd 2623 (by decide +kernel) (by decide +kernel)
theorem wd_2625 : Cond.instanceMethod yX12_sees ∈ lw_good := mm_wd 2625 (by decide +kernel) (by decide +kernel)
theorem wd_131 : Cond.selects RX12 yX12_sees yX12_sees ∈ lw_good := mm_wd 131 (by decide +kernel) (by decide +kernel)
abbrev PT_X12_goesPairs : Type := (Option Nat → Int32 → Int32 → MH → Option MH)
def PH_X12_goesPairs (p : PT_X12_goesPairs) (d0 : Nat) : Prop := (∀ d : Nat, d0 ≤ d → ∀ {a0 : Option Nat} {a1 : Int32} {a2 : Int32} {h : MH} {hz : MH}, p a0 a1 a2 h = some hz → mm_M yX12_goesPairs cX12_goesPairs 5 none d [va_rf a0, .int a1, .int a2] h (.inr none) hz)
def F_X12_goesPairs_90 (p : PT_X12_goesPairs) (k36 : Option Nat → Int32 → Int32 → Int32 → Int32 → MH → Option MH) (l0 : Option Nat) (l1 : Int32) (l2 : Int32) (l3 : Int32) (l4 : Int32) (h : MH) : Option MH := k36 l0 l1 l2 l3 (l4 + (1 : Int32)) h
set_option maxRecDepth 20000 in
set_option maxHeartbeats 4000000 in
theorem w_X12_goesPairs_90 {d : Nat} {V : Nat → List (Nat × Value) → List Value → MH → Prop} {hz : MH} {p : PT_X12_goesPairs} {d0 : Nat} (hd0 : d0 + 1 ≤ d) (hp : PH_X12_goesPairs p d0) {k36 : Option Nat → Int32 → Int32 → Int32 → Int32 → MH → Option MH} (hd : 5 ≤ d) (C : mm_C d yX12_goesPairs cX12_goesPairs 5 none (.inr none) hz V) (q36 : ∀ (x0 : Option Nat) (x1 : Int32) (x2 : Int32) (x3 : Int32) (x4 : Int32) (h : MH), k36 x0 x1 x2 x3 x4 h = some hz → V 36 [(0, va_rf x0), (1, .int x1), (2, .int x2), (3, .int x3), (4, .int x4)] [] h) (l0 : Option Nat) (l1 : Int32) (l2 : Int32) (l3 : Int32) (l4 : Int32) (h : MH) (hK : F_X12_goesPairs_90 p k36 l0 l1 l2 l3 l4 h = some hz) : V 90 [(0, va_rf l0), (1, .int l1), (2, .int l2), (3, .int l3), (4, .int l4)] [] h := by
  unfold F_X12_goesPairs_90 at hK
  refine mm_iinc C (pc := 90) (v := (l4 + (1 : Int32))) (lv' := [(4, .int (l4 + (1 : Int32))), (0, va_rf l0), (1, .int l1), (2, .int l2), (3, .int l3)]) 4 dX12_goesPairs_90 rfl rfl (by decide) rfl ?_
  refine mm_goto C (pc := 93) (tgt := 36) dX12_goesPairs_93 (by decide) ?_
  refine mm_sub C [1, 2, 3, 4, 0] rfl ?_
  exact q36 _ _ _ _ _ _ hK
def F_X12_goesPairs_36 (p : PT_X12_goesPairs) : Nat → Option Nat → Int32 → Int32 → Int32 → Int32 → MH → Option MH
  | 0 => fun _ _ _ _ _ _ => none
  | n + 1 => fun l0 l1 l2 l3 l4 h => (gR h l0 12 0).bind fun v39 => (aI h v39 0 (1 : Int32)).bind fun v43 => if v43 ≤ l4 then (if l2 = 0 then (some h) else ((gR h l0 12 35).bind fun v102 => (sI h v102 0 l3 ((-1) : Int32)).bind fun h107 => (cV h107 l0 12 (p l0 (l1 ||| ((1 : Int32) <<< (l3 &&& 31))) (0 : Int32) h107)).bind fun h115 => some h115)) else (mm_b2 (F_X12_has l1 l4 h) fun v50 h50 => if v50 = 0 then ((gR h50 l0 12 35).bind fun v60 => (sI h50 v60 0 l3 l4).bind fun h66 => (gR h66 l0 12 35).bind fun v68 => (sI h66 v68 0 l4 l3).bind fun h74 => (cV h74 l0 12 (p l0 ((l1 ||| ((1 : Int32) <<< (l3 &&& 31))) ||| ((1 : Int32) <<< (l4 &&& 31))) l2 h74)).bind fun h87 => F_X12_goesPairs_90 p (F_X12_goesPairs_36 p n) l0 l1 l2 l3 l4 h87) else (F_X12_goesPairs_90 p (F_X12_goesPairs_36 p n) l0 l1 l2 l3 l4 h50))
set_option maxRecDepth 20000 in
set_option maxHeartbeats 4000000 in
theorem w_X12_goesPairs_36 {d : Nat} {V : Nat → List (Nat × Value) → List Value → MH → Prop} {hz : MH} {p : PT_X12_goesPairs} {d0 : Nat} (hd0 : d0 + 1 ≤ d) (hp : PH_X12_goesPairs p d0) (hd : 5 ≤ d) (C : mm_C d yX12_goesPairs cX12_goesPairs 5 none (.inr none) hz V) : ∀ (n : Nat) (l0 : Option Nat) (l1 : Int32) (l2 : Int32) (l3 : Int32) (l4 : Int32) (h : MH), F_X12_goesPairs_36 p n l0 l1 l2 l3 l4 h = some hz → V 36 [(0, va_rf l0), (1, .int l1), (2, .int l2), (3, .int l3), (4, .int l4)] [] h := by
  intro n
  induction n with
  | zero => intro l0 l1 l2 l3 l4 h hK; cases hK
  | succ n ih =>
    intro l0 l1 l2 l3 l4 h hK
    replace hK : ((gR h l0 12 0).bind fun v39 => (aI h v39 0 (1 : Int32)).bind fun v43 => if v43 ≤ l4 then (if l2 = 0 then (some h) else ((gR h l0 12 35).bind fun v102 => (sI h v102 0 l3 ((-1) : Int32)).bind fun h107 => (cV h107 l0 12 (p l0 (l1 ||| ((1 : Int32) <<< (l3 &&& 31))) (0 : Int32) h107)).bind fun h115 => some h115)) else (mm_b2 (F_X12_has l1 l4 h) fun v50 h50 => if v50 = 0 then ((gR h50 l0 12 35).bind fun v60 => (sI h50 v60 0 l3 l4).bind fun h66 => (gR h66 l0 12 35).bind fun v68 => (sI h66 v68 0 l4 l3).bind fun h74 => (cV h74 l0 12 (p l0 ((l1 ||| ((1 : Int32) <<< (l3 &&& 31))) ||| ((1 : Int32) <<< (l4 &&& 31))) l2 h74)).bind fun h87 => F_X12_goesPairs_90 p (F_X12_goesPairs_36 p n) l0 l1 l2 l3 l4 h87) else (F_X12_goesPairs_90 p (F_X12_goesPairs_36 p n) l0 l1 l2 l3 l4 h50))) = some hz := hK
    refine mm_iload C (pc := 36) 4 dX12_goesPairs_36 rfl ?_
    refine mm_aload_n C (pc := 38) 0 dX12_goesPairs_38 rfl ?_
    replace hK := mm_bd hK; obtain ⟨v39, e39, hK⟩ := hK
    refine mm_getr C (pc := 39) (k := 0) inGX12 rfl (by decide) wd_1999 dX12_goesPairs_39 e39 ?_
    refine mm_iconst C (pc := 42) (v := (1 : Int32)) dX12_goesPairs_42 (by decide) ?_
    replace hK := mm_bd hK; obtain ⟨v43, e43, hK⟩ := hK
    refine mm_iald C (pc := 43) dX12_goesPairs_43 e43 ?_
    refine mm_icmp_ge C (pc := 44) (tgt := 96) dX12_goesPairs_44 (by decide) (fun hc => ?_) (fun hc => ?_)
    · replace hK := mm_ip hc hK
      refine mm_iload_n C (pc := 96) 2 dX12_goesPairs_96 rfl ?_
      refine mm_if_ne C (pc := 97) (tgt := 101) dX12_goesPairs_97 (by decide) (fun hc => ?_) (fun hc => ?_)
      · replace hK := mm_in hc hK
        refine mm_aload_n C (pc := 101) 0 dX12_goesPairs_101 rfl ?_
        replace hK := mm_bd hK; obtain ⟨v102, e102, hK⟩ := hK
        refine mm_getr C (pc := 102) (k := 35) inGX12 rfl (by decide) wd_2034 dX12_goesPairs_102 e102 ?_
        refine mm_iload_n C (pc := 105) 3 dX12_goesPairs_105 rfl ?_
        refine mm_iconst C (pc := 106) (v := ((-1) : Int32)) dX12_goesPairs_106 (by decide) ?_
        replace hK := mm_bd hK; obtain ⟨h107, e107, hK⟩ := hK
        refine mm_iast C (pc := 107) dX12_goesPairs_107 e107 ?_
        refine mm_aload_n C (pc := 108) 0 dX12_goesPairs_108 rfl ?_
        refine mm_iload_n C (pc := 109) 1 dX12_goesPairs_109 rfl ?_
        refine mm_iconst C (pc := 110) (v := (1 : Int32)) dX12_goesPairs_110 (by decide) ?_
        refine mm_iload_n C (pc := 111) 3 dX12_goesPairs_111 rfl ?_
        refine mm_ishl C (pc := 112) dX12_goesPairs_112 ?_
        refine mm_ior C (pc := 113) dX12_goesPairs_113 ?_
        refine mm_iconst C (pc := 114) (v := (0 : Int32)) dX12_goesPairs_114 (by decide) ?_
        replace hK := mm_bd hK; obtain ⟨h115, e115, hK⟩ := hK
        obtain ⟨o115, e115⟩ := cV_some e115
        refine mm_callV C (pc := 115) (d1 := d0) (As := [.int (l1 ||| ((1 : Int32) <<< (l3 &&& 31))), .int (0 : Int32)]) (st := []) (vk := none) ((hp _ (by omega) ) e115) tT_X12_goesPairs o115 (Or.inr ⟨_, rfl, rfl⟩) wd_2619 wd_2621 wd_130 (by omega) (by decide) rfl (by simp [mm_crf, mm_cti, mm_ctl]) rfl dX12_goesPairs_115 ?_
        show V _ _ [] _
        cases hK
        exact mm_vret C (pc := 118) rfl dX12_goesPairs_118 rfl rfl
      · replace hK := mm_ip hc hK
        cases hK
        exact mm_vret C (pc := 100) rfl dX12_goesPairs_100 rfl rfl
    · replace hK := mm_in hc hK
      refine mm_iload_n C (pc := 47) 1 dX12_goesPairs_47 rfl ?_
      refine mm_iload C (pc := 48) 4 dX12_goesPairs_48 rfl ?_
      replace hK := mm_b2s hK; obtain ⟨v50, h50, e50, hK⟩ := hK
      refine mm_callS C (pc := 50) (d1 := 1) (As := [.int l1, .int l4]) (st := []) (vk := (some (.int v50))) ((S_X12_has (by omega)) e50) tT_X12_has wd_2316 wd_2317 (by omega) (by decide) rfl (by simp [mm_crf, mm_cti, mm_ctl]) rfl dX12_goesPairs_50 ?_
      show V _ _ (.int v50 :: _) _
      refine mm_if_eq C (pc := 53) (tgt := 59) dX12_goesPairs_53 (by decide) (fun hc => ?_) (fun hc => ?_)
      · replace hK := mm_ip hc hK
        refine mm_aload_n C (pc := 59) 0 dX12_goesPairs_59 rfl ?_
        replace hK := mm_bd hK; obtain ⟨v60, e60, hK⟩ := hK
        refine mm_getr C (pc := 60) (k := 35) inGX12 rfl (by decide) wd_2034 dX12_goesPairs_60 e60 ?_
        refine mm_iload_n C (pc := 63) 3 dX12_goesPairs_63 rfl ?_
        refine mm_iload C (pc := 64) 4 dX12_goesPairs_64 rfl ?_
        replace hK := mm_bd hK; obtain ⟨h66, e66, hK⟩ := hK
        refine mm_iast C (pc := 66) dX12_goesPairs_66 e66 ?_
        refine mm_aload_n C (pc := 67) 0 dX12_goesPairs_67 rfl ?_
        replace hK := mm_bd hK; obtain ⟨v68, e68, hK⟩ := hK
        refine mm_getr C (pc := 68) (k := 35) inGX12 rfl (by decide) wd_2034 dX12_goesPairs_68 e68 ?_
        refine mm_iload C (pc := 71) 4 dX12_goesPairs_71 rfl ?_
        refine mm_iload_n C (pc := 73) 3 dX12_goesPairs_73 rfl ?_
        replace hK := mm_bd hK; obtain ⟨h74, e74, hK⟩ := hK
        refine mm_iast C (pc := 74) dX12_goesPairs_74 e74 ?_
        refine mm_aload_n C (pc := 75) 0 dX12_goesPairs_75 rfl ?_
        refine mm_iload_n C (pc := 76) 1 dX12_goesPairs_76 rfl ?_
        refine mm_iconst C (pc := 77) (v := (1 : Int32)) dX12_goesPairs_77 (by decide) ?_
        refine mm_iload_n C (pc := 78) 3 dX12_goesPairs_78 rfl ?_
        refine mm_ishl C (pc := 79) dX12_goesPairs_79 ?_
        refine mm_ior C (pc := 80) dX12_goesPairs_80 ?_
        refine mm_iconst C (pc := 81) (v := (1 : Int32)) dX12_goesPairs_81 (by decide) ?_
        refine mm_iload C (pc := 82) 4 dX12_goesPairs_82 rfl ?_
        refine mm_ishl C (pc := 84) dX12_goesPairs_84 ?_
        refine mm_ior C (pc := 85) dX12_goesPairs_85 ?_
        refine mm_iload_n C (pc := 86) 2 dX12_goesPairs_86 rfl ?_
        replace hK := mm_bd hK; obtain ⟨h87, e87, hK⟩ := hK
        obtain ⟨o87, e87⟩ := cV_some e87
        refine mm_callV C (pc := 87) (d1 := d0) (As := [.int ((l1 ||| ((1 : Int32) <<< (l3 &&& 31))) ||| ((1 : Int32) <<< (l4 &&& 31))), .int l2]) (st := []) (vk := none) ((hp _ (by omega) ) e87) tT_X12_goesPairs o87 (Or.inr ⟨_, rfl, rfl⟩) wd_2619 wd_2621 wd_130 (by omega) (by decide) rfl (by simp [mm_crf, mm_cti, mm_ctl]) rfl dX12_goesPairs_87 ?_
        show V _ _ [] _
        exact w_X12_goesPairs_90 hd0 hp hd C (fun z0 z1 z2 z3 z4 z5 hK => ih z0 z1 z2 z3 z4 z5 hK) _ _ _ _ _ _ hK
      · replace hK := mm_in hc hK
        refine mm_goto C (pc := 56) (tgt := 90) dX12_goesPairs_56 (by decide) ?_
        exact w_X12_goesPairs_90 hd0 hp hd C (fun z0 z1 z2 z3 z4 z5 hK => ih z0 z1 z2 z3 z4 z5 hK) _ _ _ _ _ _ hK
def F_X12_goesPairs_2 (p : PT_X12_goesPairs) : Nat → Option Nat → Int32 → Int32 → Int32 → MH → Option MH
  | 0 => fun _ _ _ _ _ => none
  | n + 1 => fun l0 l1 l2 l3 h => mm_b2 (F_X12_has l1 l3 h) fun v4 h4 => if v4 = 0 then ((gR h4 l0 12 0).bind fun v18 => (aI h4 v18 0 (1 : Int32)).bind fun v22 => if l3 < v22 then (F_X12_goesPairs_36 p mm_N l0 l1 l2 l3 (l3 + (1 : Int32)) h4) else ((cV h4 l0 12 (F_X12_sees l0 h4)).bind fun h27 => some h27)) else (F_X12_goesPairs_2 p n l0 l1 l2 (l3 + (1 : Int32)) h4)
set_option maxRecDepth 20000 in
set_option maxHeartbeats 4000000 in
theorem w_X12_goesPairs_2 {d : Nat} {V : Nat → List (Nat × Value) → List Value → MH → Prop} {hz : MH} {p : PT_X12_goesPairs} {d0 : Nat} (hd0 : d0 + 1 ≤ d) (hp : PH_X12_goesPairs p d0) (hd : 5 ≤ d) (C : mm_C d yX12_goesPairs cX12_goesPairs 5 none (.inr none) hz V) : ∀ (n : Nat) (l0 : Option Nat) (l1 : Int32) (l2 : Int32) (l3 : Int32) (h : MH), F_X12_goesPairs_2 p n l0 l1 l2 l3 h = some hz → V 2 [(0, va_rf l0), (1, .int l1), (2, .int l2), (3, .int l3)] [] h := by
  intro n
  induction n with
  | zero => intro l0 l1 l2 l3 h hK; cases hK
  | succ n ih =>
    intro l0 l1 l2 l3 h hK
    replace hK : (mm_b2 (F_X12_has l1 l3 h) fun v4 h4 => if v4 = 0 then ((gR h4 l0 12 0).bind fun v18 => (aI h4 v18 0 (1 : Int32)).bind fun v22 => if l3 < v22 then (F_X12_goesPairs_36 p mm_N l0 l1 l2 l3 (l3 + (1 : Int32)) h4) else ((cV h4 l0 12 (F_X12_sees l0 h4)).bind fun h27 => some h27)) else (F_X12_goesPairs_2 p n l0 l1 l2 (l3 + (1 : Int32)) h4)) = some hz := hK
    refine mm_iload_n C (pc := 2) 1 dX12_goesPairs_2 rfl ?_
    refine mm_iload_n C (pc := 3) 3 dX12_goesPairs_3 rfl ?_
    replace hK := mm_b2s hK; obtain ⟨v4, h4, e4, hK⟩ := hK
    refine mm_callS C (pc := 4) (d1 := 1) (As := [.int l1, .int l3]) (st := []) (vk := (some (.int v4))) ((S_X12_has (by omega)) e4) tT_X12_has wd_2316 wd_2317 (by omega) (by decide) rfl (by simp [mm_crf, mm_cti, mm_ctl]) rfl dX12_goesPairs_4 ?_
    show V _ _ (.int v4 :: _) _
    refine mm_if_eq C (pc := 7) (tgt := 16) dX12_goesPairs_7 (by decide) (fun hc => ?_) (fun hc => ?_)
    · replace hK := mm_ip hc hK
      refine mm_iload_n C (pc := 16) 3 dX12_goesPairs_16 rfl ?_
      refine mm_aload_n C (pc := 17) 0 dX12_goesPairs_17 rfl ?_
      replace hK := mm_bd hK; obtain ⟨v18, e18, hK⟩ := hK
      refine mm_getr C (pc := 18) (k := 0) inGX12 rfl (by decide) wd_1999 dX12_goesPairs_18 e18 ?_
      refine mm_iconst C (pc := 21) (v := (1 : Int32)) dX12_goesPairs_21 (by decide) ?_
      replace hK := mm_bd hK; obtain ⟨v22, e22, hK⟩ := hK
      refine mm_iald C (pc := 22) dX12_goesPairs_22 e22 ?_
      refine mm_icmp_lt C (pc := 23) (tgt := 31) dX12_goesPairs_23 (by decide) (fun hc => ?_) (fun hc => ?_)
      · replace hK := mm_ip hc hK
        refine mm_iload_n C (pc := 31) 3 dX12_goesPairs_31 rfl ?_
        refine mm_iconst C (pc := 32) (v := (1 : Int32)) dX12_goesPairs_32 (by decide) ?_
        refine mm_iadd C (pc := 33) dX12_goesPairs_33 ?_
        refine mm_istore C (pc := 34) (i := 4) (lv' := [(4, .int (l3 + (1 : Int32))), (0, va_rf l0), (1, .int l1), (2, .int l2), (3, .int l3)]) dX12_goesPairs_34 (by decide) rfl ?_
        refine mm_sub C [1, 2, 3, 4, 0] rfl ?_
        exact w_X12_goesPairs_36 hd0 hp hd C _ _ _ _ _ _ _ hK
      · replace hK := mm_in hc hK
        refine mm_aload_n C (pc := 26) 0 dX12_goesPairs_26 rfl ?_
        replace hK := mm_bd hK; obtain ⟨h27, e27, hK⟩ := hK
        obtain ⟨o27, e27⟩ := cV_some e27
        refine mm_callV C (pc := 27) (d1 := 4) (As := []) (st := []) (vk := none) ((S_X12_sees (by omega)) e27) tT_X12_sees o27 (Or.inr ⟨_, rfl, rfl⟩) wd_2623 wd_2625 wd_131 (by omega) (by decide) rfl (by simp [mm_crf, mm_cti, mm_ctl]) rfl dX12_goesPairs_27 ?_
        show V _ _ [] _
        cases hK
        exact mm_vret C (pc := 30) rfl dX12_goesPairs_30 rfl rfl
    · replace hK := mm_in hc hK
      refine mm_iinc C (pc := 10) (v := (l3 + (1 : Int32))) (lv' := [(3, .int (l3 + (1 : Int32))), (0, va_rf l0), (1, .int l1), (2, .int l2)]) 3 dX12_goesPairs_10 rfl rfl (by decide) rfl ?_
      refine mm_goto C (pc := 13) (tgt := 2) dX12_goesPairs_13 (by decide) ?_
      refine mm_sub C [1, 2, 3, 0] rfl ?_
      exact ih _ _ _ _ _ hK
def F_X12_goesPairs (p : PT_X12_goesPairs) (a0 : Option Nat) (a1 : Int32) (a2 : Int32) (h : MH) : Option MH := F_X12_goesPairs_2 p mm_N a0 a1 a2 (0 : Int32) h
set_option maxRecDepth 20000 in
set_option maxHeartbeats 4000000 in
theorem S_X12_goesPairs {d : Nat} {p : PT_X12_goesPairs} {d0 : Nat} (hd0 : d0 + 1 ≤ d) (hp : PH_X12_goesPairs p d0) (hd : 5 ≤ d) {a0 : Option Nat} {a1 : Int32} {a2 : Int32} {h : MH} {hz : MH} (hK : F_X12_goesPairs p a0 a1 a2 h = some hz) : mm_M yX12_goesPairs cX12_goesPairs 5 none d [va_rf a0, .int a1, .int a2] h (.inr none) hz := by
  refine mm_ofV (by decide +kernel) (by simp [lg_sl, mm_crf, mm_cti, mm_ctl]) (fun V C => ?_)
  rw [show lv_args 0 [va_rf a0, .int a1, .int a2] = [(0, va_rf a0), (1, .int a1), (2, .int a2)] by simp [lv_args, mm_crf, mm_cti, mm_ctl]]
  unfold F_X12_goesPairs at hK
  refine mm_iconst C (pc := 0) (v := (0 : Int32)) dX12_goesPairs_0 (by decide) ?_
  refine mm_istore_n C (pc := 1) (i := 3) (lv' := [(3, .int (0 : Int32)), (0, va_rf a0), (1, .int a1), (2, .int a2)]) dX12_goesPairs_1 rfl (by decide) rfl ?_
  refine mm_sub C [1, 2, 3, 0] rfl ?_
  exact w_X12_goesPairs_2 hd0 hp hd C _ _ _ _ _ _ hK
def G_X12_goesPairs : Nat → PT_X12_goesPairs
  | 0 => ((fun _ _ _ _ => none))
  | n + 1 => ((fun a0 a1 a2 h => F_X12_goesPairs (G_X12_goesPairs n) a0 a1 a2 h))
theorem S_G_X12_goesPairs : ∀ n : Nat, PH_X12_goesPairs (G_X12_goesPairs n) (5 + n) := by
  intro n
  induction n with
  | zero => exact (fun d hd _ _ _ _ _ hK => (by cases hK))
  | succ n ih => exact (fun d hd _ _ _ _ _ hK => S_X12_goesPairs (p := G_X12_goesPairs n) (d0 := 5 + n) (by omega) ih (by omega) hK)
theorem wd_2617 : Cond.code yX12_laysLikings cX12_laysLikings 3 none ∈ lw_good := mm_wd 2617 (by decide +kernel) (by decide +kernel)
theorem tT_X12_laysLikings : mm_T yX12_laysLikings cX12_laysLikings 3 none 0 := ⟨wd_2617, wd_170, by decide +kernel, by decide +kernel, by decide +kernel, by decide +kernel⟩
theorem wd_2614 : Cond.methodLink RX12 500 yX12_laysLikings ∈ lw_good := mm_wd 2614 (by decide +kernel) (by decide +kernel)
theorem wd_2616 : Cond.instanceMethod yX12_laysLikings ∈ lw_good := mm_wd 2616 (by decide +kernel) (by decide +kernel)
theorem wd_129 : Cond.selects RX12 yX12_laysLikings yX12_laysLikings ∈ lw_good := mm_wd 129 (by decide +kernel) (by decide +kernel)
theorem wd_2618 : Cond.constantLong RX12 505 ((-9223372036854775808) : Int64) ∈ lw_good := mm_wd 2618 (by decide +kernel) (by decide +kernel)
def F_X12_laysPairs_56 (s0 : Int32) (s1 : Int32) (s2 : Option Nat) (h : MH) : Option MH := (cV h s2 12 ((G_X12_goesPairs 64) s2 s1 s0 h)).bind fun h56 => some h56
set_option maxRecDepth 20000 in
set_option maxHeartbeats 4000000 in
theorem w_X12_laysPairs_56 {d : Nat} {V : Nat → List (Nat × Value) → List Value → MH → Prop} {hz : MH} (hd : 70 ≤ d) (C : mm_C d yX12_laysPairs cX12_laysPairs 2 none (.inr none) hz V) (s0 : Int32) (s1 : Int32) (s2 : Option Nat) (h : MH) (hK : F_X12_laysPairs_56 s0 s1 s2 h = some hz) : V 56 [] [.int s0, .int s1, va_rf s2] h := by
  unfold F_X12_laysPairs_56 at hK
  replace hK := mm_bd hK; obtain ⟨h56, e56, hK⟩ := hK
  obtain ⟨o56, e56⟩ := cV_some e56
  refine mm_callV C (pc := 56) (d1 := 69) (As := [.int s1, .int s0]) (st := []) (vk := none) (((S_G_X12_goesPairs 64) _ (by omega)) e56) tT_X12_goesPairs o56 (Or.inr ⟨_, rfl, rfl⟩) wd_2619 wd_2621 wd_130 (by omega) (by decide) rfl (by simp [mm_crf, mm_cti, mm_ctl]) rfl dX12_laysPairs_56 ?_
  show V _ _ [] _
  cases hK
  exact mm_vret C (pc := 59) rfl dX12_laysPairs_59 rfl rfl
def F_X12_laysPairs_18 : Nat → Option Nat → Int32 → MH → Option MH
  | 0 => fun _ _ _ => none
  | n + 1 => fun l0 l1 h => if (8 : Int32) ≤ l1 then ((gR h l0 12 0).bind fun v40 => (aI h v40 0 (1 : Int32)).bind fun v44 => if (v44 - v44 / (2 : Int32) * (2 : Int32)) = (1 : Int32) then (F_X12_laysPairs_56 (1 : Int32) (0 : Int32) l0 h) else (F_X12_laysPairs_56 (0 : Int32) (0 : Int32) l0 h)) else ((gR h l0 12 35).bind fun v25 => (sI h v25 0 l1 ((-1) : Int32)).bind fun h30 => F_X12_laysPairs_18 n l0 (l1 + (1 : Int32)) h30)
set_option maxRecDepth 20000 in
set_option maxHeartbeats 4000000 in
theorem w_X12_laysPairs_18 {d : Nat} {V : Nat → List (Nat × Value) → List Value → MH → Prop} {hz : MH} (hd : 70 ≤ d) (C : mm_C d yX12_laysPairs cX12_laysPairs 2 none (.inr none) hz V) : ∀ (n : Nat) (l0 : Option Nat) (l1 : Int32) (h : MH), F_X12_laysPairs_18 n l0 l1 h = some hz → V 18 [(0, va_rf l0), (1, .int l1)] [] h := by
  intro n
  induction n with
  | zero => intro l0 l1 h hK; cases hK
  | succ n ih =>
    intro l0 l1 h hK
    replace hK : (if (8 : Int32) ≤ l1 then ((gR h l0 12 0).bind fun v40 => (aI h v40 0 (1 : Int32)).bind fun v44 => if (v44 - v44 / (2 : Int32) * (2 : Int32)) = (1 : Int32) then (F_X12_laysPairs_56 (1 : Int32) (0 : Int32) l0 h) else (F_X12_laysPairs_56 (0 : Int32) (0 : Int32) l0 h)) else ((gR h l0 12 35).bind fun v25 => (sI h v25 0 l1 ((-1) : Int32)).bind fun h30 => F_X12_laysPairs_18 n l0 (l1 + (1 : Int32)) h30)) = some hz := hK
    refine mm_iload_n C (pc := 18) 1 dX12_laysPairs_18 rfl ?_
    refine mm_bipush C (pc := 19) (v := (8 : Int32)) dX12_laysPairs_19 (by decide) ?_
    refine mm_icmp_ge C (pc := 21) (tgt := 37) dX12_laysPairs_21 (by decide) (fun hc => ?_) (fun hc => ?_)
    · replace hK := mm_ip hc hK
      refine mm_aload_n C (pc := 37) 0 dX12_laysPairs_37 rfl ?_
      refine mm_iconst C (pc := 38) (v := (0 : Int32)) dX12_laysPairs_38 (by decide) ?_
      refine mm_aload_n C (pc := 39) 0 dX12_laysPairs_39 rfl ?_
      replace hK := mm_bd hK; obtain ⟨v40, e40, hK⟩ := hK
      refine mm_getr C (pc := 40) (k := 0) inGX12 rfl (by decide) wd_1999 dX12_laysPairs_40 e40 ?_
      refine mm_iconst C (pc := 43) (v := (1 : Int32)) dX12_laysPairs_43 (by decide) ?_
      replace hK := mm_bd hK; obtain ⟨v44, e44, hK⟩ := hK
      refine mm_iald C (pc := 44) dX12_laysPairs_44 e44 ?_
      refine mm_iconst C (pc := 45) (v := (2 : Int32)) dX12_laysPairs_45 (by decide) ?_
      refine mm_irem C (pc := 46) dX12_laysPairs_46 (by decide) ?_
      refine mm_iconst C (pc := 47) (v := (1 : Int32)) dX12_laysPairs_47 (by decide) ?_
      refine mm_icmp_ne C (pc := 48) (tgt := 55) dX12_laysPairs_48 (by decide) (fun hc => ?_) (fun hc => ?_)
      · replace hK := mm_in hc hK
        refine mm_iconst C (pc := 55) (v := (0 : Int32)) dX12_laysPairs_55 (by decide) ?_
        refine mm_sub C [] rfl ?_
        exact w_X12_laysPairs_56 hd C _ _ _ _ hK
      · replace hK := mm_ip hc hK
        refine mm_iconst C (pc := 51) (v := (1 : Int32)) dX12_laysPairs_51 (by decide) ?_
        refine mm_goto C (pc := 52) (tgt := 56) dX12_laysPairs_52 (by decide) ?_
        refine mm_sub C [] rfl ?_
        exact w_X12_laysPairs_56 hd C _ _ _ _ hK
    · replace hK := mm_in hc hK
      refine mm_aload_n C (pc := 24) 0 dX12_laysPairs_24 rfl ?_
      replace hK := mm_bd hK; obtain ⟨v25, e25, hK⟩ := hK
      refine mm_getr C (pc := 25) (k := 35) inGX12 rfl (by decide) wd_2034 dX12_laysPairs_25 e25 ?_
      refine mm_iload_n C (pc := 28) 1 dX12_laysPairs_28 rfl ?_
      refine mm_iconst C (pc := 29) (v := ((-1) : Int32)) dX12_laysPairs_29 (by decide) ?_
      replace hK := mm_bd hK; obtain ⟨h30, e30, hK⟩ := hK
      refine mm_iast C (pc := 30) dX12_laysPairs_30 e30 ?_
      refine mm_iinc C (pc := 31) (v := (l1 + (1 : Int32))) (lv' := [(1, .int (l1 + (1 : Int32))), (0, va_rf l0)]) 1 dX12_laysPairs_31 rfl rfl (by decide) (by simp [mm_crf]) ?_
      refine mm_goto C (pc := 34) (tgt := 18) dX12_laysPairs_34 (by decide) ?_
      refine mm_sub C [1, 0] rfl ?_
      exact ih _ _ _ hK
def F_X12_laysPairs (a0 : Option Nat) (h : MH) : Option MH := (cV h a0 12 (F_X12_laysLikings a0 h)).bind fun h1 => (pI h1 a0 12 38 (0 : Int32)).bind fun h6 => (pL h6 a0 12 39 ((-9223372036854775808) : Int64)).bind fun h13 => F_X12_laysPairs_18 mm_N a0 (0 : Int32) h13
set_option maxRecDepth 20000 in
set_option maxHeartbeats 4000000 in
theorem S_X12_laysPairs {d : Nat} (hd : 70 ≤ d) {a0 : Option Nat} {h : MH} {hz : MH} (hK : F_X12_laysPairs a0 h = some hz) : mm_M yX12_laysPairs cX12_laysPairs 2 none d [va_rf a0] h (.inr none) hz := by
  refine mm_ofV (by decide +kernel) (by simp [lg_sl, mm_crf, mm_cti, mm_ctl]) (fun V C => ?_)
  rw [show lv_args 0 [va_rf a0] = [(0, va_rf a0)] by simp [lv_args, mm_crf, mm_cti, mm_ctl]]
  unfold F_X12_laysPairs at hK
  refine mm_aload_n C (pc := 0) 0 dX12_laysPairs_0 rfl ?_
  replace hK := mm_bd hK; obtain ⟨h1, e1, hK⟩ := hK
  obtain ⟨o1, e1⟩ := cV_some e1
  refine mm_callV C (pc := 1) (d1 := 5) (As := []) (st := []) (vk := none) ((S_X12_laysLikings (by omega)) e1) tT_X12_laysLikings o1 (Or.inr ⟨_, rfl, rfl⟩) wd_2614 wd_2616 wd_129 (by omega) (by decide) rfl (by simp [mm_crf, mm_cti, mm_ctl]) rfl dX12_laysPairs_1 ?_
  show V _ _ [] _
  refine mm_aload_n C (pc := 4) 0 dX12_laysPairs_4 rfl ?_
  refine mm_iconst C (pc := 5) (v := (0 : Int32)) dX12_laysPairs_5 (by decide) ?_
  replace hK := mm_bd hK; obtain ⟨h6, e6, hK⟩ := hK
  refine mm_puti C (pc := 6) (k := 38) false (fun z => by cases z) inGX12 tyX12 tyX12_ok nmX12 rfl (by decide) wd_2037 rfl rfl dX12_laysPairs_6 e6 ?_
  refine mm_aload_n C (pc := 9) 0 dX12_laysPairs_9 rfl ?_
  refine mm_ldc2 C (pc := 10) (v := ((-9223372036854775808) : Int64)) dX12_laysPairs_10 wd_2618 ?_
  replace hK := mm_bd hK; obtain ⟨h13, e13, hK⟩ := hK
  refine mm_putl C (pc := 13) (k := 39) false (fun z => by cases z) inGX12 tyX12 tyX12_ok nmX12 rfl (by decide) wd_2038 rfl rfl dX12_laysPairs_13 e13 ?_
  refine mm_iconst C (pc := 16) (v := (0 : Int32)) dX12_laysPairs_16 (by decide) ?_
  refine mm_istore_n C (pc := 17) (i := 1) (lv' := [(1, .int (0 : Int32)), (0, va_rf a0)]) dX12_laysPairs_17 rfl (by decide) (by simp [mm_crf]) ?_
  refine mm_sub C [1, 0] rfl ?_
  exact w_X12_laysPairs_18 hd C _ _ _ _ hK
theorem wd_2613 : Cond.code yX12_laysPairs cX12_laysPairs 2 none ∈ lw_good := mm_wd 2613 (by decide +kernel) (by decide +kernel)
theorem tT_X12_laysPairs : mm_T yX12_laysPairs cX12_laysPairs 2 none 0 := ⟨wd_2613, wd_170, by decide +kernel, by decide +kernel, by decide +kernel, by decide +kernel⟩
theorem wd_2610 : Cond.methodLink RX12 507 yX12_laysPairs ∈ lw_good := mm_wd 2610 (by decide +kernel) (by decide +kernel)
theorem wd_2612 : Cond.instanceMethod yX12_laysPairs ∈ lw_good := mm_wd 2612 (by decide +kernel) (by decide +kernel)
theorem wd_128 : Cond.selects RX12 yX12_laysPairs yX12_laysPairs ∈ lw_good := mm_wd 128 (by decide +kernel) (by decide +kernel)
def F_X12_stable (a0 : Option Nat) (h : MH) : Option (Int32 × MH) := (pI h a0 12 4 (0 : Int32)).bind fun h2 => (cV h2 a0 12 (F_X12_laysPairs a0 h2)).bind fun h6 => (gI h6 a0 12 38).bind fun v10 => some (v10, h6)
set_option maxRecDepth 20000 in
set_option maxHeartbeats 4000000 in
theorem S_X12_stable {d : Nat} (hd : 71 ≤ d) {a0 : Option Nat} {h : MH} {r : Int32} {hz : MH} (hK : F_X12_stable a0 h = some (r, hz)) : mm_M yX12_stable cX12_stable 1 (some .int) d [va_rf a0] h (.inr (some (.int r))) hz := by
  refine mm_ofV (by decide +kernel) (by simp [lg_sl, mm_crf, mm_cti, mm_ctl]) (fun V C => ?_)
  rw [show lv_args 0 [va_rf a0] = [(0, va_rf a0)] by simp [lv_args, mm_crf, mm_cti, mm_ctl]]
  unfold F_X12_stable at hK
  refine mm_aload_n C (pc := 0) 0 dX12_stable_0 rfl ?_
  refine mm_iconst C (pc := 1) (v := (0 : Int32)) dX12_stable_1 (by decide) ?_
  replace hK := mm_bd hK; obtain ⟨h2, e2, hK⟩ := hK
  refine mm_puti C (pc := 2) (k := 4) false (fun z => by cases z) inGX12 tyX12 tyX12_ok nmX12 rfl (by decide) wd_2003 rfl rfl dX12_stable_2 e2 ?_
  refine mm_aload_n C (pc := 5) 0 dX12_stable_5 rfl ?_
  replace hK := mm_bd hK; obtain ⟨h6, e6, hK⟩ := hK
  obtain ⟨o6, e6⟩ := cV_some e6
  refine mm_callV C (pc := 6) (d1 := 70) (As := []) (st := []) (vk := none) ((S_X12_laysPairs (by omega)) e6) tT_X12_laysPairs o6 (Or.inr ⟨_, rfl, rfl⟩) wd_2610 wd_2612 wd_128 (by omega) (by decide) rfl (by simp [mm_crf, mm_cti, mm_ctl]) rfl dX12_stable_6 ?_
  show V _ _ [] _
  refine mm_aload_n C (pc := 9) 0 dX12_stable_9 rfl ?_
  replace hK := mm_bd hK; obtain ⟨v10, e10, hK⟩ := hK
  refine mm_geti C (pc := 10) (k := 38) inGX12 rfl (by decide) wd_2037 dX12_stable_10 e10 ?_
  cases hK
  exact mm_iret C (pc := 13) rfl dX12_stable_13 rfl rfl
def F_X12_partner_41 (s0 : Int32) (h : MH) : Option (Int32 × MH) := some (s0, h)
set_option maxRecDepth 20000 in
set_option maxHeartbeats 4000000 in
theorem w_X12_partner_41 {d : Nat} {V : Nat → List (Nat × Value) → List Value → MH → Prop} {r : Int32} {hz : MH} (hd : 71 ≤ d) (C : mm_C d yX12_partner cX12_partner 2 (some .int) (.inr (some (.int r))) hz V) (s0 : Int32) (h : MH) (hK : F_X12_partner_41 s0 h = some (r, hz)) : V 41 [] [.int s0] h := by
  unfold F_X12_partner_41 at hK
  cases hK
  exact mm_iret C (pc := 41) rfl dX12_partner_41 rfl rfl
def F_X12_partner (a0 : Option Nat) (a1 : Int32) (h : MH) : Option (Int32 × MH) := (pI h a0 12 4 (0 : Int32)).bind fun h2 => mm_b2 (cV h2 a0 12 (F_X12_isLine a0 (a1.toInt64) h2)) fun v8 h8 => if v8 = 0 then (mm_b2 (cV h8 a0 12 (F_X12_fails a0 (1 : Int32) h8)) fun v16 h16 => some (v16, h16)) else ((cV h8 a0 12 (F_X12_laysPairs a0 h8)).bind fun h21 => (gI h21 a0 12 38).bind fun v25 => if v25 = 0 then (F_X12_partner_41 ((-1) : Int32) h21) else ((gR h21 a0 12 36).bind fun v36 => (aI h21 v36 0 a1).bind fun v40 => F_X12_partner_41 v40 h21))
set_option maxRecDepth 20000 in
set_option maxHeartbeats 4000000 in
theorem S_X12_partner {d : Nat} (hd : 71 ≤ d) {a0 : Option Nat} {a1 : Int32} {h : MH} {r : Int32} {hz : MH} (hK : F_X12_partner a0 a1 h = some (r, hz)) : mm_M yX12_partner cX12_partner 2 (some .int) d [va_rf a0, .int a1] h (.inr (some (.int r))) hz := by
  refine mm_ofV (by decide +kernel) (by simp [lg_sl, mm_crf, mm_cti, mm_ctl]) (fun V C => ?_)
  rw [show lv_args 0 [va_rf a0, .int a1] = [(0, va_rf a0), (1, .int a1)] by simp [lv_args, mm_crf, mm_cti, mm_ctl]]
  unfold F_X12_partner at hK
  refine mm_aload_n C (pc := 0) 0 dX12_partner_0 rfl ?_
  refine mm_iconst C (pc := 1) (v := (0 : Int32)) dX12_partner_1 (by decide) ?_
  replace hK := mm_bd hK; obtain ⟨h2, e2, hK⟩ := hK
  refine mm_puti C (pc := 2) (k := 4) false (fun z => by cases z) inGX12 tyX12 tyX12_ok nmX12 rfl (by decide) wd_2003 rfl rfl dX12_partner_2 e2 ?_
  refine mm_aload_n C (pc := 5) 0 dX12_partner_5 rfl ?_
  refine mm_iload_n C (pc := 6) 1 dX12_partner_6 rfl ?_
  refine mm_i2l C (pc := 7) dX12_partner_7 ?_
  replace hK := mm_b2s hK; obtain ⟨v8, h8, e8, hK⟩ := hK
  obtain ⟨o8, e8⟩ := cV_some e8
  refine mm_callV C (pc := 8) (d1 := 2) (As := [.long (a1.toInt64)]) (st := []) (vk := (some (.int v8))) ((S_X12_isLine (by omega)) e8) tT_X12_isLine o8 (Or.inr ⟨_, rfl, rfl⟩) wd_2307 wd_2309 wd_88 (by omega) (by decide) rfl (by simp [mm_crf, mm_cti, mm_ctl]) rfl dX12_partner_8 ?_
  show V _ _ (.int v8 :: _) _
  refine mm_if_ne C (pc := 11) (tgt := 20) dX12_partner_11 (by decide) (fun hc => ?_) (fun hc => ?_)
  · replace hK := mm_in hc hK
    refine mm_aload_n C (pc := 20) 0 dX12_partner_20 rfl ?_
    replace hK := mm_bd hK; obtain ⟨h21, e21, hK⟩ := hK
    obtain ⟨o21, e21⟩ := cV_some e21
    refine mm_callV C (pc := 21) (d1 := 70) (As := []) (st := []) (vk := none) ((S_X12_laysPairs (by omega)) e21) tT_X12_laysPairs o21 (Or.inr ⟨_, rfl, rfl⟩) wd_2610 wd_2612 wd_128 (by omega) (by decide) rfl (by simp [mm_crf, mm_cti, mm_ctl]) rfl dX12_partner_21 ?_
    show V _ _ [] _
    refine mm_aload_n C (pc := 24) 0 dX12_partner_24 rfl ?_
    replace hK := mm_bd hK; obtain ⟨v25, e25, hK⟩ := hK
    refine mm_geti C (pc := 25) (k := 38) inGX12 rfl (by decide) wd_2037 dX12_partner_25 e25 ?_
    refine mm_if_ne C (pc := 28) (tgt := 35) dX12_partner_28 (by decide) (fun hc => ?_) (fun hc => ?_)
    · replace hK := mm_in hc hK
      refine mm_aload_n C (pc := 35) 0 dX12_partner_35 rfl ?_
      replace hK := mm_bd hK; obtain ⟨v36, e36, hK⟩ := hK
      refine mm_getr C (pc := 36) (k := 36) inGX12 rfl (by decide) wd_2035 dX12_partner_36 e36 ?_
      refine mm_iload_n C (pc := 39) 1 dX12_partner_39 rfl ?_
      replace hK := mm_bd hK; obtain ⟨v40, e40, hK⟩ := hK
      refine mm_iald C (pc := 40) dX12_partner_40 e40 ?_
      refine mm_sub C [] rfl ?_
      exact w_X12_partner_41 hd C _ _ hK
    · replace hK := mm_ip hc hK
      refine mm_iconst C (pc := 31) (v := ((-1) : Int32)) dX12_partner_31 (by decide) ?_
      refine mm_goto C (pc := 32) (tgt := 41) dX12_partner_32 (by decide) ?_
      refine mm_sub C [] rfl ?_
      exact w_X12_partner_41 hd C _ _ hK
  · replace hK := mm_ip hc hK
    refine mm_aload_n C (pc := 14) 0 dX12_partner_14 rfl ?_
    refine mm_iconst C (pc := 15) (v := (1 : Int32)) dX12_partner_15 (by decide) ?_
    replace hK := mm_b2s hK; obtain ⟨v16, h16, e16, hK⟩ := hK
    obtain ⟨o16, e16⟩ := cV_some e16
    refine mm_callV C (pc := 16) (d1 := 1) (As := [.int (1 : Int32)]) (st := []) (vk := (some (.int v16))) ((S_X12_fails (by omega)) e16) tT_X12_fails o16 (Or.inr ⟨_, rfl, rfl⟩) wd_2160 wd_2162 wd_61 (by omega) (by decide) rfl (by simp [mm_crf, mm_cti, mm_ctl]) rfl dX12_partner_16 ?_
    show V _ _ (.int v16 :: _) _
    cases hK
    exact mm_iret C (pc := 19) rfl dX12_partner_19 rfl rfl
def F_X12_leave_11 : Nat → Option Nat → Int32 → MH → Option (Int32 × MH)
  | 0 => fun _ _ _ => none
  | n + 1 => fun l0 l1 h => if (8 : Int32) ≤ l1 then (mm_b2 (cV h l0 12 (F_X12_firstLeaving l0 h)) fun v39 h39 => some (v39, h39)) else ((gR h l0 12 35).bind fun v18 => (gR h l0 12 0).bind fun v23 => (aI h v23 0 ((38 : Int32) + l1)).bind fun v30 => (sI h v18 0 l1 v30).bind fun h31 => F_X12_leave_11 n l0 (l1 + (1 : Int32)) h31)
set_option maxRecDepth 20000 in
set_option maxHeartbeats 4000000 in
theorem w_X12_leave_11 {d : Nat} {V : Nat → List (Nat × Value) → List Value → MH → Prop} {r : Int32} {hz : MH} (hd : 6 ≤ d) (C : mm_C d yX12_leave cX12_leave 2 (some .int) (.inr (some (.int r))) hz V) : ∀ (n : Nat) (l0 : Option Nat) (l1 : Int32) (h : MH), F_X12_leave_11 n l0 l1 h = some (r, hz) → V 11 [(0, va_rf l0), (1, .int l1)] [] h := by
  intro n
  induction n with
  | zero => intro l0 l1 h hK; cases hK
  | succ n ih =>
    intro l0 l1 h hK
    replace hK : (if (8 : Int32) ≤ l1 then (mm_b2 (cV h l0 12 (F_X12_firstLeaving l0 h)) fun v39 h39 => some (v39, h39)) else ((gR h l0 12 35).bind fun v18 => (gR h l0 12 0).bind fun v23 => (aI h v23 0 ((38 : Int32) + l1)).bind fun v30 => (sI h v18 0 l1 v30).bind fun h31 => F_X12_leave_11 n l0 (l1 + (1 : Int32)) h31)) = some (r, hz) := hK
    refine mm_iload_n C (pc := 11) 1 dX12_leave_11 rfl ?_
    refine mm_bipush C (pc := 12) (v := (8 : Int32)) dX12_leave_12 (by decide) ?_
    refine mm_icmp_ge C (pc := 14) (tgt := 38) dX12_leave_14 (by decide) (fun hc => ?_) (fun hc => ?_)
    · replace hK := mm_ip hc hK
      refine mm_aload_n C (pc := 38) 0 dX12_leave_38 rfl ?_
      replace hK := mm_b2s hK; obtain ⟨v39, h39, e39, hK⟩ := hK
      obtain ⟨o39, e39⟩ := cV_some e39
      refine mm_callV C (pc := 39) (d1 := 3) (As := []) (st := []) (vk := (some (.int v39))) ((S_X12_firstLeaving (by omega)) e39) tT_X12_firstLeaving o39 (Or.inr ⟨_, rfl, rfl⟩) wd_2631 wd_2633 wd_133 (by omega) (by decide) rfl (by simp [mm_crf, mm_cti, mm_ctl]) rfl dX12_leave_39 ?_
      show V _ _ (.int v39 :: _) _
      cases hK
      exact mm_iret C (pc := 42) rfl dX12_leave_42 rfl rfl
    · replace hK := mm_in hc hK
      refine mm_aload_n C (pc := 17) 0 dX12_leave_17 rfl ?_
      replace hK := mm_bd hK; obtain ⟨v18, e18, hK⟩ := hK
      refine mm_getr C (pc := 18) (k := 35) inGX12 rfl (by decide) wd_2034 dX12_leave_18 e18 ?_
      refine mm_iload_n C (pc := 21) 1 dX12_leave_21 rfl ?_
      refine mm_aload_n C (pc := 22) 0 dX12_leave_22 rfl ?_
      replace hK := mm_bd hK; obtain ⟨v23, e23, hK⟩ := hK
      refine mm_getr C (pc := 23) (k := 0) inGX12 rfl (by decide) wd_1999 dX12_leave_23 e23 ?_
      refine mm_bipush C (pc := 26) (v := (38 : Int32)) dX12_leave_26 (by decide) ?_
      refine mm_iload_n C (pc := 28) 1 dX12_leave_28 rfl ?_
      refine mm_iadd C (pc := 29) dX12_leave_29 ?_
      replace hK := mm_bd hK; obtain ⟨v30, e30, hK⟩ := hK
      refine mm_iald C (pc := 30) dX12_leave_30 e30 ?_
      replace hK := mm_bd hK; obtain ⟨h31, e31, hK⟩ := hK
      refine mm_iast C (pc := 31) dX12_leave_31 e31 ?_
      refine mm_iinc C (pc := 32) (v := (l1 + (1 : Int32))) (lv' := [(1, .int (l1 + (1 : Int32))), (0, va_rf l0)]) 1 dX12_leave_32 rfl rfl (by decide) (by simp [mm_crf]) ?_
      refine mm_goto C (pc := 35) (tgt := 11) dX12_leave_35 (by decide) ?_
      refine mm_sub C [1, 0] rfl ?_
      exact ih _ _ _ hK
def F_X12_leave (a0 : Option Nat) (h : MH) : Option (Int32 × MH) := (pI h a0 12 4 (0 : Int32)).bind fun h2 => (cV h2 a0 12 (F_X12_laysLikings a0 h2)).bind fun h6 => F_X12_leave_11 mm_N a0 (0 : Int32) h6
set_option maxRecDepth 20000 in
set_option maxHeartbeats 4000000 in
theorem S_X12_leave {d : Nat} (hd : 6 ≤ d) {a0 : Option Nat} {h : MH} {r : Int32} {hz : MH} (hK : F_X12_leave a0 h = some (r, hz)) : mm_M yX12_leave cX12_leave 2 (some .int) d [va_rf a0] h (.inr (some (.int r))) hz := by
  refine mm_ofV (by decide +kernel) (by simp [lg_sl, mm_crf, mm_cti, mm_ctl]) (fun V C => ?_)
  rw [show lv_args 0 [va_rf a0] = [(0, va_rf a0)] by simp [lv_args, mm_crf, mm_cti, mm_ctl]]
  unfold F_X12_leave at hK
  refine mm_aload_n C (pc := 0) 0 dX12_leave_0 rfl ?_
  refine mm_iconst C (pc := 1) (v := (0 : Int32)) dX12_leave_1 (by decide) ?_
  replace hK := mm_bd hK; obtain ⟨h2, e2, hK⟩ := hK
  refine mm_puti C (pc := 2) (k := 4) false (fun z => by cases z) inGX12 tyX12 tyX12_ok nmX12 rfl (by decide) wd_2003 rfl rfl dX12_leave_2 e2 ?_
  refine mm_aload_n C (pc := 5) 0 dX12_leave_5 rfl ?_
  replace hK := mm_bd hK; obtain ⟨h6, e6, hK⟩ := hK
  obtain ⟨o6, e6⟩ := cV_some e6
  refine mm_callV C (pc := 6) (d1 := 5) (As := []) (st := []) (vk := none) ((S_X12_laysLikings (by omega)) e6) tT_X12_laysLikings o6 (Or.inr ⟨_, rfl, rfl⟩) wd_2614 wd_2616 wd_129 (by omega) (by decide) rfl (by simp [mm_crf, mm_cti, mm_ctl]) rfl dX12_leave_6 ?_
  show V _ _ [] _
  refine mm_iconst C (pc := 9) (v := (0 : Int32)) dX12_leave_9 (by decide) ?_
  refine mm_istore_n C (pc := 10) (i := 1) (lv' := [(1, .int (0 : Int32)), (0, va_rf a0)]) dX12_leave_10 rfl (by decide) (by simp [mm_crf]) ?_
  refine mm_sub C [1, 0] rfl ?_
  exact w_X12_leave_11 hd C _ _ _ _ hK
def F_X12_darlings_105 (k13 : Option Nat → Int32 → Int32 → MH → Option (Int32 × MH)) (k27 : Option Nat → Int32 → Int32 → Int32 → MH → Option (Int32 × MH)) (l0 : Option Nat) (l1 : Int32) (l2 : Int32) (l3 : Int32) (h : MH) : Option (Int32 × MH) := k27 l0 l1 l2 (l3 + (1 : Int32)) h
set_option maxRecDepth 20000 in
set_option maxHeartbeats 4000000 in
theorem w_X12_darlings_105 {d : Nat} {V : Nat → List (Nat × Value) → List Value → MH → Prop} {r : Int32} {hz : MH} {k13 : Option Nat → Int32 → Int32 → MH → Option (Int32 × MH)} {k27 : Option Nat → Int32 → Int32 → Int32 → MH → Option (Int32 × MH)} (hd : 6 ≤ d) (C : mm_C d yX12_darlings cX12_darlings 4 (some .int) (.inr (some (.int r))) hz V) (q13 : ∀ (x0 : Option Nat) (x1 : Int32) (x2 : Int32) (h : MH), k13 x0 x1 x2 h = some (r, hz) → V 13 [(0, va_rf x0), (1, .int x1), (2, .int x2)] [] h) (q27 : ∀ (x0 : Option Nat) (x1 : Int32) (x2 : Int32) (x3 : Int32) (h : MH), k27 x0 x1 x2 x3 h = some (r, hz) → V 27 [(0, va_rf x0), (1, .int x1), (2, .int x2), (3, .int x3)] [] h) (l0 : Option Nat) (l1 : Int32) (l2 : Int32) (l3 : Int32) (h : MH) (hK : F_X12_darlings_105 k13 k27 l0 l1 l2 l3 h = some (r, hz)) : V 105 [(0, va_rf l0), (1, .int l1), (2, .int l2), (3, .int l3)] [] h := by
  unfold F_X12_darlings_105 at hK
  refine mm_iinc C (pc := 105) (v := (l3 + (1 : Int32))) (lv' := [(3, .int (l3 + (1 : Int32))), (0, va_rf l0), (1, .int l1), (2, .int l2)]) 3 dX12_darlings_105 rfl rfl (by decide) rfl ?_
  refine mm_goto C (pc := 108) (tgt := 27) dX12_darlings_108 (by decide) ?_
  refine mm_sub C [1, 2, 3, 0] rfl ?_
  exact q27 _ _ _ _ _ hK
def F_X12_darlings_27 (k13 : Option Nat → Int32 → Int32 → MH → Option (Int32 × MH)) : Nat → Option Nat → Int32 → Int32 → Int32 → MH → Option (Int32 × MH)
  | 0 => fun _ _ _ _ _ => none
  | n + 1 => fun l0 l1 l2 l3 h => (gR h l0 12 0).bind fun v29 => (aI h v29 0 (1 : Int32)).bind fun v33 => if v33 ≤ l3 then (k13 l0 l1 (l2 + (1 : Int32)) h) else ((gR h l0 12 34).bind fun v38 => (aI h v38 0 (((8 : Int32) * l2) + l3)).bind fun v47 => (gR h l0 12 34).bind fun v49 => (aI h v49 0 (((8 : Int32) * l3) + l2)).bind fun v58 => (gR h l0 12 34).bind fun v61 => (aI h v61 0 (((8 : Int32) * (l1 / (10 : Int32))) + (l1 - l1 / (10 : Int32) * (10 : Int32)))).bind fun v76 => (gR h l0 12 34).bind fun v78 => (aI h v78 0 (((8 : Int32) * (l1 - l1 / (10 : Int32) * (10 : Int32))) + (l1 / (10 : Int32)))).bind fun v93 => if (v47 + v58) ≤ (v76 + v93) then (F_X12_darlings_105 k13 (F_X12_darlings_27 k13 n) l0 l1 l2 l3 h) else (F_X12_darlings_105 k13 (F_X12_darlings_27 k13 n) l0 (((10 : Int32) * l2) + l3) l2 l3 h))
set_option maxRecDepth 20000 in
set_option maxHeartbeats 4000000 in
theorem w_X12_darlings_27 {d : Nat} {V : Nat → List (Nat × Value) → List Value → MH → Prop} {r : Int32} {hz : MH} {k13 : Option Nat → Int32 → Int32 → MH → Option (Int32 × MH)} (hd : 6 ≤ d) (C : mm_C d yX12_darlings cX12_darlings 4 (some .int) (.inr (some (.int r))) hz V) (q13 : ∀ (x0 : Option Nat) (x1 : Int32) (x2 : Int32) (h : MH), k13 x0 x1 x2 h = some (r, hz) → V 13 [(0, va_rf x0), (1, .int x1), (2, .int x2)] [] h) : ∀ (n : Nat) (l0 : Option Nat) (l1 : Int32) (l2 : Int32) (l3 : Int32) (h : MH), F_X12_darlings_27 k13 n l0 l1 l2 l3 h = some (r, hz) → V 27 [(0, va_rf l0), (1, .int l1), (2, .int l2), (3, .int l3)] [] h := by
  intro n
  induction n with
  | zero => intro l0 l1 l2 l3 h hK; cases hK
  | succ n ih =>
    intro l0 l1 l2 l3 h hK
    replace hK : ((gR h l0 12 0).bind fun v29 => (aI h v29 0 (1 : Int32)).bind fun v33 => if v33 ≤ l3 then (k13 l0 l1 (l2 + (1 : Int32)) h) else ((gR h l0 12 34).bind fun v38 => (aI h v38 0 (((8 : Int32) * l2) + l3)).bind fun v47 => (gR h l0 12 34).bind fun v49 => (aI h v49 0 (((8 : Int32) * l3) + l2)).bind fun v58 => (gR h l0 12 34).bind fun v61 => (aI h v61 0 (((8 : Int32) * (l1 / (10 : Int32))) + (l1 - l1 / (10 : Int32) * (10 : Int32)))).bind fun v76 => (gR h l0 12 34).bind fun v78 => (aI h v78 0 (((8 : Int32) * (l1 - l1 / (10 : Int32) * (10 : Int32))) + (l1 / (10 : Int32)))).bind fun v93 => if (v47 + v58) ≤ (v76 + v93) then (F_X12_darlings_105 k13 (F_X12_darlings_27 k13 n) l0 l1 l2 l3 h) else (F_X12_darlings_105 k13 (F_X12_darlings_27 k13 n) l0 (((10 : Int32) * l2) + l3) l2 l3 h))) = some (r, hz) := hK
    refine mm_iload_n C (pc := 27) 3 dX12_darlings_27 rfl ?_
    refine mm_aload_n C (pc := 28) 0 dX12_darlings_28 rfl ?_
    replace hK := mm_bd hK; obtain ⟨v29, e29, hK⟩ := hK
    refine mm_getr C (pc := 29) (k := 0) inGX12 rfl (by decide) wd_1999 dX12_darlings_29 e29 ?_
    refine mm_iconst C (pc := 32) (v := (1 : Int32)) dX12_darlings_32 (by decide) ?_
    replace hK := mm_bd hK; obtain ⟨v33, e33, hK⟩ := hK
    refine mm_iald C (pc := 33) dX12_darlings_33 e33 ?_
    refine mm_icmp_ge C (pc := 34) (tgt := 111) dX12_darlings_34 (by decide) (fun hc => ?_) (fun hc => ?_)
    · replace hK := mm_ip hc hK
      refine mm_iinc C (pc := 111) (v := (l2 + (1 : Int32))) (lv' := [(2, .int (l2 + (1 : Int32))), (0, va_rf l0), (1, .int l1), (3, .int l3)]) 2 dX12_darlings_111 rfl rfl (by decide) rfl ?_
      refine mm_goto C (pc := 114) (tgt := 13) dX12_darlings_114 (by decide) ?_
      refine mm_sub C [1, 2, 0] rfl ?_
      exact q13 _ _ _ _ hK
    · replace hK := mm_in hc hK
      refine mm_aload_n C (pc := 37) 0 dX12_darlings_37 rfl ?_
      replace hK := mm_bd hK; obtain ⟨v38, e38, hK⟩ := hK
      refine mm_getr C (pc := 38) (k := 34) inGX12 rfl (by decide) wd_2033 dX12_darlings_38 e38 ?_
      refine mm_bipush C (pc := 41) (v := (8 : Int32)) dX12_darlings_41 (by decide) ?_
      refine mm_iload_n C (pc := 43) 2 dX12_darlings_43 rfl ?_
      refine mm_imul C (pc := 44) dX12_darlings_44 ?_
      refine mm_iload_n C (pc := 45) 3 dX12_darlings_45 rfl ?_
      refine mm_iadd C (pc := 46) dX12_darlings_46 ?_
      replace hK := mm_bd hK; obtain ⟨v47, e47, hK⟩ := hK
      refine mm_iald C (pc := 47) dX12_darlings_47 e47 ?_
      refine mm_aload_n C (pc := 48) 0 dX12_darlings_48 rfl ?_
      replace hK := mm_bd hK; obtain ⟨v49, e49, hK⟩ := hK
      refine mm_getr C (pc := 49) (k := 34) inGX12 rfl (by decide) wd_2033 dX12_darlings_49 e49 ?_
      refine mm_bipush C (pc := 52) (v := (8 : Int32)) dX12_darlings_52 (by decide) ?_
      refine mm_iload_n C (pc := 54) 3 dX12_darlings_54 rfl ?_
      refine mm_imul C (pc := 55) dX12_darlings_55 ?_
      refine mm_iload_n C (pc := 56) 2 dX12_darlings_56 rfl ?_
      refine mm_iadd C (pc := 57) dX12_darlings_57 ?_
      replace hK := mm_bd hK; obtain ⟨v58, e58, hK⟩ := hK
      refine mm_iald C (pc := 58) dX12_darlings_58 e58 ?_
      refine mm_iadd C (pc := 59) dX12_darlings_59 ?_
      refine mm_aload_n C (pc := 60) 0 dX12_darlings_60 rfl ?_
      replace hK := mm_bd hK; obtain ⟨v61, e61, hK⟩ := hK
      refine mm_getr C (pc := 61) (k := 34) inGX12 rfl (by decide) wd_2033 dX12_darlings_61 e61 ?_
      refine mm_bipush C (pc := 64) (v := (8 : Int32)) dX12_darlings_64 (by decide) ?_
      refine mm_iload_n C (pc := 66) 1 dX12_darlings_66 rfl ?_
      refine mm_bipush C (pc := 67) (v := (10 : Int32)) dX12_darlings_67 (by decide) ?_
      refine mm_idiv C (pc := 69) dX12_darlings_69 (by decide) ?_
      refine mm_imul C (pc := 70) dX12_darlings_70 ?_
      refine mm_iload_n C (pc := 71) 1 dX12_darlings_71 rfl ?_
      refine mm_bipush C (pc := 72) (v := (10 : Int32)) dX12_darlings_72 (by decide) ?_
      refine mm_irem C (pc := 74) dX12_darlings_74 (by decide) ?_
      refine mm_iadd C (pc := 75) dX12_darlings_75 ?_
      replace hK := mm_bd hK; obtain ⟨v76, e76, hK⟩ := hK
      refine mm_iald C (pc := 76) dX12_darlings_76 e76 ?_
      refine mm_aload_n C (pc := 77) 0 dX12_darlings_77 rfl ?_
      replace hK := mm_bd hK; obtain ⟨v78, e78, hK⟩ := hK
      refine mm_getr C (pc := 78) (k := 34) inGX12 rfl (by decide) wd_2033 dX12_darlings_78 e78 ?_
      refine mm_bipush C (pc := 81) (v := (8 : Int32)) dX12_darlings_81 (by decide) ?_
      refine mm_iload_n C (pc := 83) 1 dX12_darlings_83 rfl ?_
      refine mm_bipush C (pc := 84) (v := (10 : Int32)) dX12_darlings_84 (by decide) ?_
      refine mm_irem C (pc := 86) dX12_darlings_86 (by decide) ?_
      refine mm_imul C (pc := 87) dX12_darlings_87 ?_
      refine mm_iload_n C (pc := 88) 1 dX12_darlings_88 rfl ?_
      refine mm_bipush C (pc := 89) (v := (10 : Int32)) dX12_darlings_89 (by decide) ?_
      refine mm_idiv C (pc := 91) dX12_darlings_91 (by decide) ?_
      refine mm_iadd C (pc := 92) dX12_darlings_92 ?_
      replace hK := mm_bd hK; obtain ⟨v93, e93, hK⟩ := hK
      refine mm_iald C (pc := 93) dX12_darlings_93 e93 ?_
      refine mm_iadd C (pc := 94) dX12_darlings_94 ?_
      refine mm_icmp_le C (pc := 95) (tgt := 105) dX12_darlings_95 (by decide) (fun hc => ?_) (fun hc => ?_)
      · replace hK := mm_ip hc hK
        exact w_X12_darlings_105 hd C (fun z0 z1 z2 z3 hK => q13 z0 z1 z2 z3 hK) (fun z0 z1 z2 z3 z4 hK => ih z0 z1 z2 z3 z4 hK) _ _ _ _ _ hK
      · replace hK := mm_in hc hK
        refine mm_bipush C (pc := 98) (v := (10 : Int32)) dX12_darlings_98 (by decide) ?_
        refine mm_iload_n C (pc := 100) 2 dX12_darlings_100 rfl ?_
        refine mm_imul C (pc := 101) dX12_darlings_101 ?_
        refine mm_iload_n C (pc := 102) 3 dX12_darlings_102 rfl ?_
        refine mm_iadd C (pc := 103) dX12_darlings_103 ?_
        refine mm_istore_n C (pc := 104) (i := 1) (lv' := [(1, .int (((10 : Int32) * l2) + l3)), (0, va_rf l0), (2, .int l2), (3, .int l3)]) dX12_darlings_104 rfl (by decide) (by simp [mm_crf]) ?_
        refine mm_sub C [1, 0, 2, 3] rfl ?_
        exact w_X12_darlings_105 hd C (fun z0 z1 z2 z3 hK => q13 z0 z1 z2 z3 hK) (fun z0 z1 z2 z3 z4 hK => ih z0 z1 z2 z3 z4 hK) _ _ _ _ _ hK
def F_X12_darlings_13 : Nat → Option Nat → Int32 → Int32 → MH → Option (Int32 × MH)
  | 0 => fun _ _ _ _ => none
  | n + 1 => fun l0 l1 l2 h => (gR h l0 12 0).bind fun v15 => (aI h v15 0 (1 : Int32)).bind fun v19 => if v19 ≤ l2 then (some (l1, h)) else (F_X12_darlings_27 (F_X12_darlings_13 n) mm_N l0 l1 l2 (l2 + (1 : Int32)) h)
set_option maxRecDepth 20000 in
set_option maxHeartbeats 4000000 in
theorem w_X12_darlings_13 {d : Nat} {V : Nat → List (Nat × Value) → List Value → MH → Prop} {r : Int32} {hz : MH} (hd : 6 ≤ d) (C : mm_C d yX12_darlings cX12_darlings 4 (some .int) (.inr (some (.int r))) hz V) : ∀ (n : Nat) (l0 : Option Nat) (l1 : Int32) (l2 : Int32) (h : MH), F_X12_darlings_13 n l0 l1 l2 h = some (r, hz) → V 13 [(0, va_rf l0), (1, .int l1), (2, .int l2)] [] h := by
  intro n
  induction n with
  | zero => intro l0 l1 l2 h hK; cases hK
  | succ n ih =>
    intro l0 l1 l2 h hK
    replace hK : ((gR h l0 12 0).bind fun v15 => (aI h v15 0 (1 : Int32)).bind fun v19 => if v19 ≤ l2 then (some (l1, h)) else (F_X12_darlings_27 (F_X12_darlings_13 n) mm_N l0 l1 l2 (l2 + (1 : Int32)) h)) = some (r, hz) := hK
    refine mm_iload_n C (pc := 13) 2 dX12_darlings_13 rfl ?_
    refine mm_aload_n C (pc := 14) 0 dX12_darlings_14 rfl ?_
    replace hK := mm_bd hK; obtain ⟨v15, e15, hK⟩ := hK
    refine mm_getr C (pc := 15) (k := 0) inGX12 rfl (by decide) wd_1999 dX12_darlings_15 e15 ?_
    refine mm_iconst C (pc := 18) (v := (1 : Int32)) dX12_darlings_18 (by decide) ?_
    replace hK := mm_bd hK; obtain ⟨v19, e19, hK⟩ := hK
    refine mm_iald C (pc := 19) dX12_darlings_19 e19 ?_
    refine mm_icmp_ge C (pc := 20) (tgt := 117) dX12_darlings_20 (by decide) (fun hc => ?_) (fun hc => ?_)
    · replace hK := mm_ip hc hK
      refine mm_iload_n C (pc := 117) 1 dX12_darlings_117 rfl ?_
      cases hK
      exact mm_iret C (pc := 118) rfl dX12_darlings_118 rfl rfl
    · replace hK := mm_in hc hK
      refine mm_iload_n C (pc := 23) 2 dX12_darlings_23 rfl ?_
      refine mm_iconst C (pc := 24) (v := (1 : Int32)) dX12_darlings_24 (by decide) ?_
      refine mm_iadd C (pc := 25) dX12_darlings_25 ?_
      refine mm_istore_n C (pc := 26) (i := 3) (lv' := [(3, .int (l2 + (1 : Int32))), (0, va_rf l0), (1, .int l1), (2, .int l2)]) dX12_darlings_26 rfl (by decide) rfl ?_
      refine mm_sub C [1, 2, 3, 0] rfl ?_
      exact w_X12_darlings_27 hd C (fun z0 z1 z2 z3 hK => ih z0 z1 z2 z3 hK) _ _ _ _ _ _ hK
def F_X12_darlings (a0 : Option Nat) (h : MH) : Option (Int32 × MH) := (pI h a0 12 4 (0 : Int32)).bind fun h2 => (cV h2 a0 12 (F_X12_laysLikings a0 h2)).bind fun h6 => F_X12_darlings_13 mm_N a0 (1 : Int32) (0 : Int32) h6
set_option maxRecDepth 20000 in
set_option maxHeartbeats 4000000 in
theorem S_X12_darlings {d : Nat} (hd : 6 ≤ d) {a0 : Option Nat} {h : MH} {r : Int32} {hz : MH} (hK : F_X12_darlings a0 h = some (r, hz)) : mm_M yX12_darlings cX12_darlings 4 (some .int) d [va_rf a0] h (.inr (some (.int r))) hz := by
  refine mm_ofV (by decide +kernel) (by simp [lg_sl, mm_crf, mm_cti, mm_ctl]) (fun V C => ?_)
  rw [show lv_args 0 [va_rf a0] = [(0, va_rf a0)] by simp [lv_args, mm_crf, mm_cti, mm_ctl]]
  unfold F_X12_darlings at hK
  refine mm_aload_n C (pc := 0) 0 dX12_darlings_0 rfl ?_
  refine mm_iconst C (pc := 1) (v := (0 : Int32)) dX12_darlings_1 (by decide) ?_
  replace hK := mm_bd hK; obtain ⟨h2, e2, hK⟩ := hK
  refine mm_puti C (pc := 2) (k := 4) false (fun z => by cases z) inGX12 tyX12 tyX12_ok nmX12 rfl (by decide) wd_2003 rfl rfl dX12_darlings_2 e2 ?_
  refine mm_aload_n C (pc := 5) 0 dX12_darlings_5 rfl ?_
  replace hK := mm_bd hK; obtain ⟨h6, e6, hK⟩ := hK
  obtain ⟨o6, e6⟩ := cV_some e6
  refine mm_callV C (pc := 6) (d1 := 5) (As := []) (st := []) (vk := none) ((S_X12_laysLikings (by omega)) e6) tT_X12_laysLikings o6 (Or.inr ⟨_, rfl, rfl⟩) wd_2614 wd_2616 wd_129 (by omega) (by decide) rfl (by simp [mm_crf, mm_cti, mm_ctl]) rfl dX12_darlings_6 ?_
  show V _ _ [] _
  refine mm_iconst C (pc := 9) (v := (1 : Int32)) dX12_darlings_9 (by decide) ?_
  refine mm_istore_n C (pc := 10) (i := 1) (lv' := [(1, .int (1 : Int32)), (0, va_rf a0)]) dX12_darlings_10 rfl (by decide) (by simp [mm_crf]) ?_
  refine mm_iconst C (pc := 11) (v := (0 : Int32)) dX12_darlings_11 (by decide) ?_
  refine mm_istore_n C (pc := 12) (i := 2) (lv' := [(2, .int (0 : Int32)), (1, .int (1 : Int32)), (0, va_rf a0)]) dX12_darlings_12 rfl (by decide) rfl ?_
  refine mm_sub C [2, 1, 0] rfl ?_
  exact w_X12_darlings_13 hd C _ _ _ _ _ hK
theorem wd_2655 : Cond.constantLong RX12 510 (17 : Int64) ∈ lw_good := mm_wd 2655 (by decide +kernel) (by decide +kernel)
def F_X12_happiest_70 (s0 : Int32) (h : MH) : Option (Int32 × MH) := some (s0, h)
set_option maxRecDepth 20000 in
set_option maxHeartbeats 4000000 in
theorem w_X12_happiest_70 {d : Nat} {V : Nat → List (Nat × Value) → List Value → MH → Prop} {r : Int32} {hz : MH} (hd : 71 ≤ d) (C : mm_C d yX12_happiest cX12_happiest 2 (some .int) (.inr (some (.int r))) hz V) (s0 : Int32) (h : MH) (hK : F_X12_happiest_70 s0 h = some (r, hz)) : V 70 [] [.int s0] h := by
  unfold F_X12_happiest_70 at hK
  cases hK
  exact mm_iret C (pc := 70) rfl dX12_happiest_70 rfl rfl
def F_X12_happiest_29 (l0 : Option Nat) (l1 : Int32) (h : MH) : Option (Int32 × MH) := (cV h l0 12 (F_X12_laysPairs l0 h)).bind fun h30 => if l1 = 0 then ((gL h30 l0 12 39).bind fun v38 => F_X12_happiest_70 (v38.toInt32) h30) else (mm_b2 (cV h30 l0 12 (F_X12_isLine l0 ((l1 - (10 : Int32)).toInt64) h30)) fun v51 h51 => if v51 = 0 then (F_X12_happiest_70 ((-1) : Int32) h51) else ((gR h51 l0 12 37).bind fun v58 => (aI h51 v58 0 (l1 - (10 : Int32))).bind fun v65 => F_X12_happiest_70 v65 h51))
set_option maxRecDepth 20000 in
set_option maxHeartbeats 4000000 in
theorem w_X12_happiest_29 {d : Nat} {V : Nat → List (Nat × Value) → List Value → MH → Prop} {r : Int32} {hz : MH} (hd : 71 ≤ d) (C : mm_C d yX12_happiest cX12_happiest 2 (some .int) (.inr (some (.int r))) hz V) (l0 : Option Nat) (l1 : Int32) (h : MH) (hK : F_X12_happiest_29 l0 l1 h = some (r, hz)) : V 29 [(0, va_rf l0), (1, .int l1)] [] h := by
  unfold F_X12_happiest_29 at hK
  refine mm_aload_n C (pc := 29) 0 dX12_happiest_29 rfl ?_
  replace hK := mm_bd hK; obtain ⟨h30, e30, hK⟩ := hK
  obtain ⟨o30, e30⟩ := cV_some e30
  refine mm_callV C (pc := 30) (d1 := 70) (As := []) (st := []) (vk := none) ((S_X12_laysPairs (by omega)) e30) tT_X12_laysPairs o30 (Or.inr ⟨_, rfl, rfl⟩) wd_2610 wd_2612 wd_128 (by omega) (by decide) rfl (by simp [mm_crf, mm_cti, mm_ctl]) rfl dX12_happiest_30 ?_
  show V _ _ [] _
  refine mm_iload_n C (pc := 33) 1 dX12_happiest_33 rfl ?_
  refine mm_if_ne C (pc := 34) (tgt := 45) dX12_happiest_34 (by decide) (fun hc => ?_) (fun hc => ?_)
  · replace hK := mm_in hc hK
    refine mm_aload_n C (pc := 45) 0 dX12_happiest_45 rfl ?_
    refine mm_iload_n C (pc := 46) 1 dX12_happiest_46 rfl ?_
    refine mm_bipush C (pc := 47) (v := (10 : Int32)) dX12_happiest_47 (by decide) ?_
    refine mm_isub C (pc := 49) dX12_happiest_49 ?_
    refine mm_i2l C (pc := 50) dX12_happiest_50 ?_
    replace hK := mm_b2s hK; obtain ⟨v51, h51, e51, hK⟩ := hK
    obtain ⟨o51, e51⟩ := cV_some e51
    refine mm_callV C (pc := 51) (d1 := 2) (As := [.long ((l1 - (10 : Int32)).toInt64)]) (st := []) (vk := (some (.int v51))) ((S_X12_isLine (by omega)) e51) tT_X12_isLine o51 (Or.inr ⟨_, rfl, rfl⟩) wd_2307 wd_2309 wd_88 (by omega) (by decide) rfl (by simp [mm_crf, mm_cti, mm_ctl]) rfl dX12_happiest_51 ?_
    show V _ _ (.int v51 :: _) _
    refine mm_if_eq C (pc := 54) (tgt := 69) dX12_happiest_54 (by decide) (fun hc => ?_) (fun hc => ?_)
    · replace hK := mm_ip hc hK
      refine mm_iconst C (pc := 69) (v := ((-1) : Int32)) dX12_happiest_69 (by decide) ?_
      refine mm_sub C [] rfl ?_
      exact w_X12_happiest_70 hd C _ _ hK
    · replace hK := mm_in hc hK
      refine mm_aload_n C (pc := 57) 0 dX12_happiest_57 rfl ?_
      replace hK := mm_bd hK; obtain ⟨v58, e58, hK⟩ := hK
      refine mm_getr C (pc := 58) (k := 37) inGX12 rfl (by decide) wd_2036 dX12_happiest_58 e58 ?_
      refine mm_iload_n C (pc := 61) 1 dX12_happiest_61 rfl ?_
      refine mm_bipush C (pc := 62) (v := (10 : Int32)) dX12_happiest_62 (by decide) ?_
      refine mm_isub C (pc := 64) dX12_happiest_64 ?_
      replace hK := mm_bd hK; obtain ⟨v65, e65, hK⟩ := hK
      refine mm_iald C (pc := 65) dX12_happiest_65 e65 ?_
      refine mm_goto C (pc := 66) (tgt := 70) dX12_happiest_66 (by decide) ?_
      refine mm_sub C [] rfl ?_
      exact w_X12_happiest_70 hd C _ _ hK
  · replace hK := mm_ip hc hK
    refine mm_aload_n C (pc := 37) 0 dX12_happiest_37 rfl ?_
    replace hK := mm_bd hK; obtain ⟨v38, e38, hK⟩ := hK
    refine mm_getl C (pc := 38) (k := 39) inGX12 rfl (by decide) wd_2038 dX12_happiest_38 e38 ?_
    refine mm_l2i C (pc := 41) dX12_happiest_41 ?_
    refine mm_goto C (pc := 42) (tgt := 70) dX12_happiest_42 (by decide) ?_
    refine mm_sub C [] rfl ?_
    exact w_X12_happiest_70 hd C _ _ hK
def F_X12_happiest (a0 : Option Nat) (a1 : Int32) (h : MH) : Option (Int32 × MH) := (pI h a0 12 4 (0 : Int32)).bind fun h2 => if a1 = 0 then (F_X12_happiest_29 a0 a1 h2) else (mm_b2 (F_X12_within (a1.toInt64) (10 : Int64) (17 : Int64) h2) fun v17 h17 => if v17 = 0 then (mm_b2 (cV h17 a0 12 (F_X12_fails a0 (1 : Int32) h17)) fun v25 h25 => some (v25, h25)) else (F_X12_happiest_29 a0 a1 h17))
set_option maxRecDepth 20000 in
set_option maxHeartbeats 4000000 in
theorem S_X12_happiest {d : Nat} (hd : 71 ≤ d) {a0 : Option Nat} {a1 : Int32} {h : MH} {r : Int32} {hz : MH} (hK : F_X12_happiest a0 a1 h = some (r, hz)) : mm_M yX12_happiest cX12_happiest 2 (some .int) d [va_rf a0, .int a1] h (.inr (some (.int r))) hz := by
  refine mm_ofV (by decide +kernel) (by simp [lg_sl, mm_crf, mm_cti, mm_ctl]) (fun V C => ?_)
  rw [show lv_args 0 [va_rf a0, .int a1] = [(0, va_rf a0), (1, .int a1)] by simp [lv_args, mm_crf, mm_cti, mm_ctl]]
  unfold F_X12_happiest at hK
  refine mm_aload_n C (pc := 0) 0 dX12_happiest_0 rfl ?_
  refine mm_iconst C (pc := 1) (v := (0 : Int32)) dX12_happiest_1 (by decide) ?_
  replace hK := mm_bd hK; obtain ⟨h2, e2, hK⟩ := hK
  refine mm_puti C (pc := 2) (k := 4) false (fun z => by cases z) inGX12 tyX12 tyX12_ok nmX12 rfl (by decide) wd_2003 rfl rfl dX12_happiest_2 e2 ?_
  refine mm_iload_n C (pc := 5) 1 dX12_happiest_5 rfl ?_
  refine mm_if_eq C (pc := 6) (tgt := 29) dX12_happiest_6 (by decide) (fun hc => ?_) (fun hc => ?_)
  · replace hK := mm_ip hc hK
    exact w_X12_happiest_29 hd C _ _ _ hK
  · replace hK := mm_in hc hK
    refine mm_iload_n C (pc := 9) 1 dX12_happiest_9 rfl ?_
    refine mm_i2l C (pc := 10) dX12_happiest_10 ?_
    refine mm_ldc2 C (pc := 11) (v := (10 : Int64)) dX12_happiest_11 wd_2431 ?_
    refine mm_ldc2 C (pc := 14) (v := (17 : Int64)) dX12_happiest_14 wd_2655 ?_
    replace hK := mm_b2s hK; obtain ⟨v17, h17, e17, hK⟩ := hK
    refine mm_callS C (pc := 17) (d1 := 1) (As := [.long (a1.toInt64), .long (10 : Int64), .long (17 : Int64)]) (st := []) (vk := (some (.int v17))) ((S_X12_within (by omega)) e17) tT_X12_within wd_2157 wd_2158 (by omega) (by decide) rfl (by simp [mm_crf, mm_cti, mm_ctl]) rfl dX12_happiest_17 ?_
    show V _ _ (.int v17 :: _) _
    refine mm_if_ne C (pc := 20) (tgt := 29) dX12_happiest_20 (by decide) (fun hc => ?_) (fun hc => ?_)
    · replace hK := mm_in hc hK
      exact w_X12_happiest_29 hd C _ _ _ hK
    · replace hK := mm_ip hc hK
      refine mm_aload_n C (pc := 23) 0 dX12_happiest_23 rfl ?_
      refine mm_iconst C (pc := 24) (v := (1 : Int32)) dX12_happiest_24 (by decide) ?_
      replace hK := mm_b2s hK; obtain ⟨v25, h25, e25, hK⟩ := hK
      obtain ⟨o25, e25⟩ := cV_some e25
      refine mm_callV C (pc := 25) (d1 := 1) (As := [.int (1 : Int32)]) (st := []) (vk := (some (.int v25))) ((S_X12_fails (by omega)) e25) tT_X12_fails o25 (Or.inr ⟨_, rfl, rfl⟩) wd_2160 wd_2162 wd_61 (by omega) (by decide) rfl (by simp [mm_crf, mm_cti, mm_ctl]) rfl dX12_happiest_25 ?_
      show V _ _ (.int v25 :: _) _
      cases hK
      exact mm_iret C (pc := 28) rfl dX12_happiest_28 rfl rfl
def F_X12_common_6 : Nat → Int64 → Int64 → MH → Option (Int64 × MH)
  | 0 => fun _ _ _ => none
  | n + 1 => fun l4 l6 h => if (lg_cmp l6 (0 : Int64)) = 0 then (some (l4, h)) else (if l6 = 0 then none else F_X12_common_6 n l6 (l4 - l4 / l6 * l6) h)
set_option maxRecDepth 20000 in
set_option maxHeartbeats 4000000 in
theorem w_X12_common_6 {d : Nat} {V : Nat → List (Nat × Value) → List Value → MH → Prop} {r : Int64} {hz : MH} (hd : 1 ≤ d) (C : mm_C d yX12_common cX12_common 10 (some .long) (.inr (some (.long r))) hz V) : ∀ (n : Nat) (l4 : Int64) (l6 : Int64) (h : MH), F_X12_common_6 n l4 l6 h = some (r, hz) → V 6 [(4, .long l4), (6, .long l6)] [] h := by
  intro n
  induction n with
  | zero => intro l4 l6 h hK; cases hK
  | succ n ih =>
    intro l4 l6 h hK
    replace hK : (if (lg_cmp l6 (0 : Int64)) = 0 then (some (l4, h)) else (if l6 = 0 then none else F_X12_common_6 n l6 (l4 - l4 / l6 * l6) h)) = some (r, hz) := hK
    refine mm_lload C (pc := 6) 1 dX12_common_6 rfl ?_
    refine mm_lconst C (pc := 8) (v := (0 : Int64)) dX12_common_8 (by decide) ?_
    refine mm_lcmp C (pc := 9) dX12_common_9 ?_
    refine mm_if_eq C (pc := 10) (tgt := 31) dX12_common_10 (by decide) (fun hc => ?_) (fun hc => ?_)
    · replace hK := mm_ip hc hK
      refine mm_lload C (pc := 31) 0 dX12_common_31 rfl ?_
      cases hK
      exact mm_lret C (pc := 33) rfl dX12_common_33 rfl rfl
    · replace hK := mm_in hc hK
      refine mm_lload C (pc := 13) 0 dX12_common_13 rfl ?_
      refine mm_lload C (pc := 15) 1 dX12_common_15 rfl ?_
      by_cases hz17 : l6 = 0
      · rw [if_pos hz17] at hK; cases hK
      replace hK := mm_in hz17 hK
      refine mm_lrem C (pc := 17) dX12_common_17 hz17 ?_
      refine mm_lstore C (pc := 18) (i := 8) (lv' := [(8, .long (l4 - l4 / l6 * l6)), (4, .long l4), (6, .long l6)]) dX12_common_18 (by decide) rfl ?_
      refine mm_lload C (pc := 20) 2 dX12_common_20 rfl ?_
      refine mm_lstore C (pc := 22) (i := 4) (lv' := [(4, .long l6), (8, .long (l4 - l4 / l6 * l6)), (6, .long l6)]) dX12_common_22 (by decide) rfl ?_
      refine mm_lload C (pc := 24) 1 dX12_common_24 rfl ?_
      refine mm_lstore C (pc := 26) (i := 6) (lv' := [(6, .long (l4 - l4 / l6 * l6)), (4, .long l6), (8, .long (l4 - l4 / l6 * l6))]) dX12_common_26 (by decide) rfl ?_
      refine mm_goto C (pc := 28) (tgt := 6) dX12_common_28 (by decide) ?_
      refine mm_sub C [1, 0] rfl ?_
      exact ih _ _ _ hK
def F_X12_common (a0 : Int64) (a1 : Int64) (h : MH) : Option (Int64 × MH) := F_X12_common_6 mm_N a0 a1 h
set_option maxRecDepth 20000 in
set_option maxHeartbeats 4000000 in
theorem S_X12_common {d : Nat} (hd : 1 ≤ d) {a0 : Int64} {a1 : Int64} {h : MH} {r : Int64} {hz : MH} (hK : F_X12_common a0 a1 h = some (r, hz)) : mm_M yX12_common cX12_common 10 (some .long) d [.long a0, .long a1] h (.inr (some (.long r))) hz := by
  refine mm_ofV (by decide +kernel) (by simp [lg_sl, mm_crf, mm_cti, mm_ctl]) (fun V C => ?_)
  rw [show lv_args 0 [.long a0, .long a1] = [(0, .long a0), (2, .long a1)] by simp [lv_args, mm_crf, mm_cti, mm_ctl]]
  unfold F_X12_common at hK
  refine mm_lload_n C (pc := 0) 0 dX12_common_0 rfl ?_
  refine mm_lstore C (pc := 1) (i := 4) (lv' := [(4, .long a0), (0, .long a0), (2, .long a1)]) dX12_common_1 (by decide) rfl ?_
  refine mm_lload_n C (pc := 3) 2 dX12_common_3 rfl ?_
  refine mm_lstore C (pc := 4) (i := 6) (lv' := [(6, .long a1), (4, .long a0), (0, .long a0), (2, .long a1)]) dX12_common_4 (by decide) rfl ?_
  refine mm_sub C [1, 0] rfl ?_
  exact w_X12_common_6 hd C _ _ _ _ hK
theorem wd_2039 : Cond.fieldLink RX12 512 "CrossedLinesModel" "above" "J" ∈ lw_good := mm_wd 2039 (by decide +kernel) (by decide +kernel)
theorem wd_2040 : Cond.fieldLink RX12 515 "CrossedLinesModel" "below" "J" ∈ lw_good := mm_wd 2040 (by decide +kernel) (by decide +kernel)
theorem wd_2671 : Cond.code yX12_common cX12_common 10 (some .long) ∈ lw_good := mm_wd 2671 (by decide +kernel) (by decide +kernel)
theorem tT_X12_common : mm_T yX12_common cX12_common 10 (some .long) 2 := ⟨wd_2671, wd_170, by decide +kernel, by decide +kernel, by decide +kernel, by decide +kernel⟩
theorem wd_2669 : Cond.methodLink RX12 518 yX12_common ∈ lw_good := mm_wd 2669 (by decide +kernel) (by decide +kernel)
theorem wd_2670 : Cond.static yX12_common ∈ lw_good := mm_wd 2670 (by decide +kernel) (by decide +kernel)
def F_X12_laysLoss_13 : Nat → Option Nat → Int32 → Int32 → Int32 → Int32 → MH → Option MH
  | 0 => fun _ _ _ _ _ _ => none
  | n + 1 => fun l0 l1 l2 l3 l4 h => if l1 < l4 then (some h) else ((gL h l0 12 40).bind fun v22 => (gL h l0 12 41).bind fun v35 => mm_b2 (F_X12_common ((l2.toInt64) * v22) ((((l3.toInt64) * (l4.toInt64)) * v35) + ((l2.toInt64) * v22)) h) fun v48 h48 => if v48 = 0 then none else (pL h48 l0 12 40 (((l2.toInt64) * v22) / v48)).bind fun h59 => if v48 = 0 then none else (pL h59 l0 12 41 (((((l3.toInt64) * (l4.toInt64)) * v35) + ((l2.toInt64) * v22)) / v48)).bind fun h68 => F_X12_laysLoss_13 n l0 l1 l2 l3 (l4 + (1 : Int32)) h68)
set_option maxRecDepth 20000 in
set_option maxHeartbeats 4000000 in
theorem w_X12_laysLoss_13 {d : Nat} {V : Nat → List (Nat × Value) → List Value → MH → Prop} {hz : MH} (hd : 2 ≤ d) (C : mm_C d yX12_laysLoss cX12_laysLoss 11 none (.inr none) hz V) : ∀ (n : Nat) (l0 : Option Nat) (l1 : Int32) (l2 : Int32) (l3 : Int32) (l4 : Int32) (h : MH), F_X12_laysLoss_13 n l0 l1 l2 l3 l4 h = some hz → V 13 [(0, va_rf l0), (1, .int l1), (2, .int l2), (3, .int l3), (4, .int l4)] [] h := by
  intro n
  induction n with
  | zero => intro l0 l1 l2 l3 l4 h hK; cases hK
  | succ n ih =>
    intro l0 l1 l2 l3 l4 h hK
    replace hK : (if l1 < l4 then (some h) else ((gL h l0 12 40).bind fun v22 => (gL h l0 12 41).bind fun v35 => mm_b2 (F_X12_common ((l2.toInt64) * v22) ((((l3.toInt64) * (l4.toInt64)) * v35) + ((l2.toInt64) * v22)) h) fun v48 h48 => if v48 = 0 then none else (pL h48 l0 12 40 (((l2.toInt64) * v22) / v48)).bind fun h59 => if v48 = 0 then none else (pL h59 l0 12 41 (((((l3.toInt64) * (l4.toInt64)) * v35) + ((l2.toInt64) * v22)) / v48)).bind fun h68 => F_X12_laysLoss_13 n l0 l1 l2 l3 (l4 + (1 : Int32)) h68)) = some hz := hK
    refine mm_iload C (pc := 13) 4 dX12_laysLoss_13 rfl ?_
    refine mm_iload_n C (pc := 15) 1 dX12_laysLoss_15 rfl ?_
    refine mm_icmp_gt C (pc := 16) (tgt := 77) dX12_laysLoss_16 (by decide) (fun hc => ?_) (fun hc => ?_)
    · replace hK := mm_ip hc hK
      cases hK
      exact mm_vret C (pc := 77) rfl dX12_laysLoss_77 rfl rfl
    · replace hK := mm_in hc hK
      refine mm_iload_n C (pc := 19) 2 dX12_laysLoss_19 rfl ?_
      refine mm_i2l C (pc := 20) dX12_laysLoss_20 ?_
      refine mm_aload_n C (pc := 21) 0 dX12_laysLoss_21 rfl ?_
      replace hK := mm_bd hK; obtain ⟨v22, e22, hK⟩ := hK
      refine mm_getl C (pc := 22) (k := 40) inGX12 rfl (by decide) wd_2039 dX12_laysLoss_22 e22 ?_
      refine mm_lmul C (pc := 25) dX12_laysLoss_25 ?_
      refine mm_lstore C (pc := 26) (i := 5) (lv' := [(5, .long ((l2.toInt64) * v22)), (0, va_rf l0), (1, .int l1), (2, .int l2), (3, .int l3), (4, .int l4)]) dX12_laysLoss_26 (by decide) rfl ?_
      refine mm_iload_n C (pc := 28) 4 dX12_laysLoss_28 rfl ?_
      refine mm_i2l C (pc := 29) dX12_laysLoss_29 ?_
      refine mm_iload C (pc := 30) 5 dX12_laysLoss_30 rfl ?_
      refine mm_i2l C (pc := 32) dX12_laysLoss_32 ?_
      refine mm_lmul C (pc := 33) dX12_laysLoss_33 ?_
      refine mm_aload_n C (pc := 34) 1 dX12_laysLoss_34 rfl ?_
      replace hK := mm_bd hK; obtain ⟨v35, e35, hK⟩ := hK
      refine mm_getl C (pc := 35) (k := 41) inGX12 rfl (by decide) wd_2040 dX12_laysLoss_35 e35 ?_
      refine mm_lmul C (pc := 38) dX12_laysLoss_38 ?_
      refine mm_lload C (pc := 39) 0 dX12_laysLoss_39 rfl ?_
      refine mm_ladd C (pc := 41) dX12_laysLoss_41 ?_
      refine mm_lstore C (pc := 42) (i := 7) (lv' := [(7, .long ((((l3.toInt64) * (l4.toInt64)) * v35) + ((l2.toInt64) * v22))), (5, .long ((l2.toInt64) * v22)), (0, va_rf l0), (1, .int l1), (2, .int l2), (3, .int l3), (4, .int l4)]) dX12_laysLoss_42 (by decide) rfl ?_
      refine mm_lload C (pc := 44) 1 dX12_laysLoss_44 rfl ?_
      refine mm_lload C (pc := 46) 0 dX12_laysLoss_46 rfl ?_
      replace hK := mm_b2s hK; obtain ⟨v48, h48, e48, hK⟩ := hK
      refine mm_callS C (pc := 48) (d1 := 1) (As := [.long ((l2.toInt64) * v22), .long ((((l3.toInt64) * (l4.toInt64)) * v35) + ((l2.toInt64) * v22))]) (st := []) (vk := (some (.long v48))) ((S_X12_common (by omega)) e48) tT_X12_common wd_2669 wd_2670 (by omega) (by decide) rfl (by simp [mm_crf, mm_cti, mm_ctl]) rfl dX12_laysLoss_48 ?_
      show V _ _ (.long v48 :: _) _
      refine mm_lstore C (pc := 51) (i := 9) (lv' := [(9, .long v48), (7, .long ((((l3.toInt64) * (l4.toInt64)) * v35) + ((l2.toInt64) * v22))), (5, .long ((l2.toInt64) * v22)), (0, va_rf l0), (1, .int l1), (2, .int l2), (3, .int l3), (4, .int l4)]) dX12_laysLoss_51 (by decide) rfl ?_
      refine mm_aload_n C (pc := 53) 3 dX12_laysLoss_53 rfl ?_
      refine mm_lload C (pc := 54) 2 dX12_laysLoss_54 rfl ?_
      refine mm_lload C (pc := 56) 0 dX12_laysLoss_56 rfl ?_
      by_cases hz58 : v48 = 0
      · rw [if_pos hz58] at hK; cases hK
      replace hK := mm_in hz58 hK
      refine mm_ldiv C (pc := 58) dX12_laysLoss_58 hz58 ?_
      replace hK := mm_bd hK; obtain ⟨h59, e59, hK⟩ := hK
      refine mm_putl C (pc := 59) (k := 40) false (fun z => by cases z) inGX12 tyX12 tyX12_ok nmX12 rfl (by decide) wd_2039 rfl rfl dX12_laysLoss_59 e59 ?_
      refine mm_aload_n C (pc := 62) 3 dX12_laysLoss_62 rfl ?_
      refine mm_lload C (pc := 63) 1 dX12_laysLoss_63 rfl ?_
      refine mm_lload C (pc := 65) 0 dX12_laysLoss_65 rfl ?_
      by_cases hz67 : v48 = 0
      · rw [if_pos hz67] at hK; cases hK
      replace hK := mm_in hz67 hK
      refine mm_ldiv C (pc := 67) dX12_laysLoss_67 hz67 ?_
      replace hK := mm_bd hK; obtain ⟨h68, e68, hK⟩ := hK
      refine mm_putl C (pc := 68) (k := 41) false (fun z => by cases z) inGX12 tyX12 tyX12_ok nmX12 rfl (by decide) wd_2040 rfl rfl dX12_laysLoss_68 e68 ?_
      refine mm_iinc C (pc := 71) (v := (l4 + (1 : Int32))) (lv' := [(4, .int (l4 + (1 : Int32))), (9, .long v48), (7, .long ((((l3.toInt64) * (l4.toInt64)) * v35) + ((l2.toInt64) * v22))), (5, .long ((l2.toInt64) * v22)), (0, va_rf l0), (1, .int l1), (2, .int l2), (3, .int l3)]) 7 dX12_laysLoss_71 rfl rfl (by decide) rfl ?_
      refine mm_goto C (pc := 74) (tgt := 13) dX12_laysLoss_74 (by decide) ?_
      refine mm_sub C [4, 5, 6, 7, 0] rfl ?_
      exact ih _ _ _ _ _ _ hK
def F_X12_laysLoss (a0 : Option Nat) (a1 : Int32) (a2 : Int32) (a3 : Int32) (h : MH) : Option MH := (pL h a0 12 40 (1 : Int64)).bind fun h2 => (pL h2 a0 12 41 (1 : Int64)).bind fun h7 => F_X12_laysLoss_13 mm_N a0 a1 a2 a3 (1 : Int32) h7
set_option maxRecDepth 20000 in
set_option maxHeartbeats 4000000 in
theorem S_X12_laysLoss {d : Nat} (hd : 2 ≤ d) {a0 : Option Nat} {a1 : Int32} {a2 : Int32} {a3 : Int32} {h : MH} {hz : MH} (hK : F_X12_laysLoss a0 a1 a2 a3 h = some hz) : mm_M yX12_laysLoss cX12_laysLoss 11 none d [va_rf a0, .int a1, .int a2, .int a3] h (.inr none) hz := by
  refine mm_ofV (by decide +kernel) (by simp [lg_sl, mm_crf, mm_cti, mm_ctl]) (fun V C => ?_)
  rw [show lv_args 0 [va_rf a0, .int a1, .int a2, .int a3] = [(0, va_rf a0), (1, .int a1), (2, .int a2), (3, .int a3)] by simp [lv_args, mm_crf, mm_cti, mm_ctl]]
  unfold F_X12_laysLoss at hK
  refine mm_aload_n C (pc := 0) 0 dX12_laysLoss_0 rfl ?_
  refine mm_lconst C (pc := 1) (v := (1 : Int64)) dX12_laysLoss_1 (by decide) ?_
  replace hK := mm_bd hK; obtain ⟨h2, e2, hK⟩ := hK
  refine mm_putl C (pc := 2) (k := 40) false (fun z => by cases z) inGX12 tyX12 tyX12_ok nmX12 rfl (by decide) wd_2039 rfl rfl dX12_laysLoss_2 e2 ?_
  refine mm_aload_n C (pc := 5) 0 dX12_laysLoss_5 rfl ?_
  refine mm_lconst C (pc := 6) (v := (1 : Int64)) dX12_laysLoss_6 (by decide) ?_
  replace hK := mm_bd hK; obtain ⟨h7, e7, hK⟩ := hK
  refine mm_putl C (pc := 7) (k := 41) false (fun z => by cases z) inGX12 tyX12 tyX12_ok nmX12 rfl (by decide) wd_2040 rfl rfl dX12_laysLoss_7 e7 ?_
  refine mm_iconst C (pc := 10) (v := (1 : Int32)) dX12_laysLoss_10 (by decide) ?_
  refine mm_istore C (pc := 11) (i := 4) (lv' := [(4, .int (1 : Int32)), (0, va_rf a0), (1, .int a1), (2, .int a2), (3, .int a3)]) dX12_laysLoss_11 (by decide) rfl ?_
  refine mm_sub C [1, 2, 3, 4, 0] rfl ?_
  exact w_X12_laysLoss_13 hd C _ _ _ _ _ _ _ hK
theorem wd_2664 : Cond.constantLong RX12 521 (20 : Int64) ∈ lw_good := mm_wd 2664 (by decide +kernel) (by decide +kernel)
def F_X12_isAsked_29 (s0 : Int32) (h : MH) : Option (Int32 × MH) := rZ s0 h
set_option maxRecDepth 20000 in
set_option maxHeartbeats 4000000 in
theorem w_X12_isAsked_29 {d : Nat} {V : Nat → List (Nat × Value) → List Value → MH → Prop} {r : Int32} {hz : MH} (hd : 2 ≤ d) (C : mm_C d yX12_isAsked cX12_isAsked 2 (some .boolean) (.inr (some (.int r))) hz V) (s0 : Int32) (h : MH) (hK : F_X12_isAsked_29 s0 h = some (r, hz)) : V 29 [] [.int s0] h := by
  unfold F_X12_isAsked_29 at hK
  replace hK := rZ_some hK; obtain ⟨hv29, hK⟩ := hK
  cases hK
  exact mm_zret C (pc := 29) rfl (mm_nrZ hv29) dX12_isAsked_29 rfl rfl
def F_X12_isAsked_28 (h : MH) : Option (Int32 × MH) := F_X12_isAsked_29 (0 : Int32) h
set_option maxRecDepth 20000 in
set_option maxHeartbeats 4000000 in
theorem w_X12_isAsked_28 {d : Nat} {V : Nat → List (Nat × Value) → List Value → MH → Prop} {r : Int32} {hz : MH} (hd : 2 ≤ d) (C : mm_C d yX12_isAsked cX12_isAsked 2 (some .boolean) (.inr (some (.int r))) hz V) (h : MH) (hK : F_X12_isAsked_28  h = some (r, hz)) : V 28 [] [] h := by
  unfold F_X12_isAsked_28 at hK
  refine mm_iconst C (pc := 28) (v := (0 : Int32)) dX12_isAsked_28 (by decide) ?_
  exact w_X12_isAsked_29 hd C _ _ hK
def F_X12_isAsked (a0 : Int32) (a1 : Int32) (h : MH) : Option (Int32 × MH) := mm_b2 (F_X12_within (a0.toInt64) (1 : Int64) (20 : Int64) h) fun v6 h6 => if v6 = 0 then (F_X12_isAsked_28 h6) else (mm_b2 (F_X12_within (a1.toInt64) (1 : Int64) (20 : Int64) h6) fun v18 h18 => if v18 = 0 then (F_X12_isAsked_28 h18) else (F_X12_isAsked_29 (1 : Int32) h18))
set_option maxRecDepth 20000 in
set_option maxHeartbeats 4000000 in
theorem S_X12_isAsked {d : Nat} (hd : 2 ≤ d) {a0 : Int32} {a1 : Int32} {h : MH} {r : Int32} {hz : MH} (hK : F_X12_isAsked a0 a1 h = some (r, hz)) : mm_M yX12_isAsked cX12_isAsked 2 (some .boolean) d [.int a0, .int a1] h (.inr (some (.int r))) hz := by
  refine mm_ofV (by decide +kernel) (by simp [lg_sl, mm_crf, mm_cti, mm_ctl]) (fun V C => ?_)
  rw [show lv_args 0 [.int a0, .int a1] = [(0, .int a0), (1, .int a1)] by simp [lv_args, mm_crf, mm_cti, mm_ctl]]
  unfold F_X12_isAsked at hK
  refine mm_iload_n C (pc := 0) 0 dX12_isAsked_0 rfl ?_
  refine mm_i2l C (pc := 1) dX12_isAsked_1 ?_
  refine mm_lconst C (pc := 2) (v := (1 : Int64)) dX12_isAsked_2 (by decide) ?_
  refine mm_ldc2 C (pc := 3) (v := (20 : Int64)) dX12_isAsked_3 wd_2664 ?_
  replace hK := mm_b2s hK; obtain ⟨v6, h6, e6, hK⟩ := hK
  refine mm_callS C (pc := 6) (d1 := 1) (As := [.long (a0.toInt64), .long (1 : Int64), .long (20 : Int64)]) (st := []) (vk := (some (.int v6))) ((S_X12_within (by omega)) e6) tT_X12_within wd_2157 wd_2158 (by omega) (by decide) rfl (by simp [mm_crf, mm_cti, mm_ctl]) rfl dX12_isAsked_6 ?_
  show V _ _ (.int v6 :: _) _
  refine mm_if_eq C (pc := 9) (tgt := 28) dX12_isAsked_9 (by decide) (fun hc => ?_) (fun hc => ?_)
  · replace hK := mm_ip hc hK
    refine mm_sub C [] rfl ?_
    exact w_X12_isAsked_28 hd C _ hK
  · replace hK := mm_in hc hK
    refine mm_iload_n C (pc := 12) 1 dX12_isAsked_12 rfl ?_
    refine mm_i2l C (pc := 13) dX12_isAsked_13 ?_
    refine mm_lconst C (pc := 14) (v := (1 : Int64)) dX12_isAsked_14 (by decide) ?_
    refine mm_ldc2 C (pc := 15) (v := (20 : Int64)) dX12_isAsked_15 wd_2664 ?_
    replace hK := mm_b2s hK; obtain ⟨v18, h18, e18, hK⟩ := hK
    refine mm_callS C (pc := 18) (d1 := 1) (As := [.long (a1.toInt64), .long (1 : Int64), .long (20 : Int64)]) (st := []) (vk := (some (.int v18))) ((S_X12_within (by omega)) e18) tT_X12_within wd_2157 wd_2158 (by omega) (by decide) rfl (by simp [mm_crf, mm_cti, mm_ctl]) rfl dX12_isAsked_18 ?_
    show V _ _ (.int v18 :: _) _
    refine mm_if_eq C (pc := 21) (tgt := 28) dX12_isAsked_21 (by decide) (fun hc => ?_) (fun hc => ?_)
    · replace hK := mm_ip hc hK
      refine mm_sub C [] rfl ?_
      exact w_X12_isAsked_28 hd C _ hK
    · replace hK := mm_in hc hK
      refine mm_iconst C (pc := 24) (v := (1 : Int32)) dX12_isAsked_24 (by decide) ?_
      refine mm_goto C (pc := 25) (tgt := 29) dX12_isAsked_25 (by decide) ?_
      refine mm_sub C [] rfl ?_
      exact w_X12_isAsked_29 hd C _ _ hK
theorem wd_2660 : Cond.constantLong RX12 523 (8 : Int64) ∈ lw_good := mm_wd 2660 (by decide +kernel) (by decide +kernel)
theorem wd_2663 : Cond.code yX12_isAsked cX12_isAsked 2 (some .boolean) ∈ lw_good := mm_wd 2663 (by decide +kernel) (by decide +kernel)
theorem tT_X12_isAsked : mm_T yX12_isAsked cX12_isAsked 2 (some .boolean) 2 := ⟨wd_2663, wd_170, by decide +kernel, by decide +kernel, by decide +kernel, by decide +kernel⟩
theorem wd_2661 : Cond.methodLink RX12 525 yX12_isAsked ∈ lw_good := mm_wd 2661 (by decide +kernel) (by decide +kernel)
theorem wd_2662 : Cond.static yX12_isAsked ∈ lw_good := mm_wd 2662 (by decide +kernel) (by decide +kernel)
theorem wd_2668 : Cond.code yX12_laysLoss cX12_laysLoss 11 none ∈ lw_good := mm_wd 2668 (by decide +kernel) (by decide +kernel)
theorem tT_X12_laysLoss : mm_T yX12_laysLoss cX12_laysLoss 11 none 3 := ⟨wd_2668, wd_170, by decide +kernel, by decide +kernel, by decide +kernel, by decide +kernel⟩
theorem wd_2665 : Cond.methodLink RX12 528 yX12_laysLoss ∈ lw_good := mm_wd 2665 (by decide +kernel) (by decide +kernel)
theorem wd_2667 : Cond.instanceMethod yX12_laysLoss ∈ lw_good := mm_wd 2667 (by decide +kernel) (by decide +kernel)
theorem wd_135 : Cond.selects RX12 yX12_laysLoss yX12_laysLoss ∈ lw_good := mm_wd 135 (by decide +kernel) (by decide +kernel)
def F_X12_loss_36 (l0 : Option Nat) (h : MH) : Option (Int64 × MH) := mm_b2 (cV h l0 12 (F_X12_fails l0 (1 : Int32) h)) fun v38 h38 => some ((v38.toInt64), h38)
set_option maxRecDepth 20000 in
set_option maxHeartbeats 4000000 in
theorem w_X12_loss_36 {d : Nat} {V : Nat → List (Nat × Value) → List Value → MH → Prop} {r : Int64} {hz : MH} (hd : 3 ≤ d) (C : mm_C d yX12_loss cX12_loss 5 (some .long) (.inr (some (.long r))) hz V) (l0 : Option Nat) (h : MH) (hK : F_X12_loss_36 l0 h = some (r, hz)) : V 36 [(0, va_rf l0)] [] h := by
  unfold F_X12_loss_36 at hK
  refine mm_aload_n C (pc := 36) 0 dX12_loss_36 rfl ?_
  refine mm_iconst C (pc := 37) (v := (1 : Int32)) dX12_loss_37 (by decide) ?_
  replace hK := mm_b2s hK; obtain ⟨v38, h38, e38, hK⟩ := hK
  obtain ⟨o38, e38⟩ := cV_some e38
  refine mm_callV C (pc := 38) (d1 := 1) (As := [.int (1 : Int32)]) (st := []) (vk := (some (.int v38))) ((S_X12_fails (by omega)) e38) tT_X12_fails o38 (Or.inr ⟨_, rfl, rfl⟩) wd_2160 wd_2162 wd_61 (by omega) (by decide) rfl (by simp [mm_crf, mm_cti, mm_ctl]) rfl dX12_loss_38 ?_
  show V _ _ (.int v38 :: _) _
  refine mm_i2l C (pc := 41) dX12_loss_41 ?_
  cases hK
  exact mm_lret C (pc := 42) rfl dX12_loss_42 rfl rfl
def F_X12_loss_66 (s0 : Int64) (h : MH) : Option (Int64 × MH) := some (s0, h)
set_option maxRecDepth 20000 in
set_option maxHeartbeats 4000000 in
theorem w_X12_loss_66 {d : Nat} {V : Nat → List (Nat × Value) → List Value → MH → Prop} {r : Int64} {hz : MH} (hd : 3 ≤ d) (C : mm_C d yX12_loss cX12_loss 5 (some .long) (.inr (some (.long r))) hz V) (s0 : Int64) (h : MH) (hK : F_X12_loss_66 s0 h = some (r, hz)) : V 66 [] [.long s0] h := by
  unfold F_X12_loss_66 at hK
  cases hK
  exact mm_lret C (pc := 66) rfl dX12_loss_66 rfl rfl
def F_X12_loss (a0 : Option Nat) (a1 : Int32) (a2 : Int32) (a3 : Int32) (a4 : Int32) (h : MH) : Option (Int64 × MH) := (pI h a0 12 4 (0 : Int32)).bind fun h2 => mm_b2 (F_X12_within (a1.toInt64) (0 : Int64) (8 : Int64) h2) fun v11 h11 => if v11 = 0 then (F_X12_loss_36 a0 h11) else (mm_b2 (F_X12_isAsked a2 a3 h11) fun v19 h19 => if v19 = 0 then (F_X12_loss_36 a0 h19) else (mm_b2 (F_X12_within (a4.toInt64) (0 : Int64) (1 : Int64) h19) fun v30 h30 => if v30 = 0 then (F_X12_loss_36 a0 h30) else ((cV h30 a0 12 (F_X12_laysLoss a0 a1 a2 a3 h30)).bind fun h47 => if a4 = 0 then ((gL h47 a0 12 40).bind fun v56 => F_X12_loss_66 v56 h47) else ((gL h47 a0 12 41).bind fun v63 => F_X12_loss_66 v63 h47))))
set_option maxRecDepth 20000 in
set_option maxHeartbeats 4000000 in
theorem S_X12_loss {d : Nat} (hd : 3 ≤ d) {a0 : Option Nat} {a1 : Int32} {a2 : Int32} {a3 : Int32} {a4 : Int32} {h : MH} {r : Int64} {hz : MH} (hK : F_X12_loss a0 a1 a2 a3 a4 h = some (r, hz)) : mm_M yX12_loss cX12_loss 5 (some .long) d [va_rf a0, .int a1, .int a2, .int a3, .int a4] h (.inr (some (.long r))) hz := by
  refine mm_ofV (by decide +kernel) (by simp [lg_sl, mm_crf, mm_cti, mm_ctl]) (fun V C => ?_)
  rw [show lv_args 0 [va_rf a0, .int a1, .int a2, .int a3, .int a4] = [(0, va_rf a0), (1, .int a1), (2, .int a2), (3, .int a3), (4, .int a4)] by simp [lv_args, mm_crf, mm_cti, mm_ctl]]
  unfold F_X12_loss at hK
  refine mm_aload_n C (pc := 0) 0 dX12_loss_0 rfl ?_
  refine mm_iconst C (pc := 1) (v := (0 : Int32)) dX12_loss_1 (by decide) ?_
  replace hK := mm_bd hK; obtain ⟨h2, e2, hK⟩ := hK
  refine mm_puti C (pc := 2) (k := 4) false (fun z => by cases z) inGX12 tyX12 tyX12_ok nmX12 rfl (by decide) wd_2003 rfl rfl dX12_loss_2 e2 ?_
  refine mm_iload_n C (pc := 5) 1 dX12_loss_5 rfl ?_
  refine mm_i2l C (pc := 6) dX12_loss_6 ?_
  refine mm_lconst C (pc := 7) (v := (0 : Int64)) dX12_loss_7 (by decide) ?_
  refine mm_ldc2 C (pc := 8) (v := (8 : Int64)) dX12_loss_8 wd_2660 ?_
  replace hK := mm_b2s hK; obtain ⟨v11, h11, e11, hK⟩ := hK
  refine mm_callS C (pc := 11) (d1 := 1) (As := [.long (a1.toInt64), .long (0 : Int64), .long (8 : Int64)]) (st := []) (vk := (some (.int v11))) ((S_X12_within (by omega)) e11) tT_X12_within wd_2157 wd_2158 (by omega) (by decide) rfl (by simp [mm_crf, mm_cti, mm_ctl]) rfl dX12_loss_11 ?_
  show V _ _ (.int v11 :: _) _
  refine mm_if_eq C (pc := 14) (tgt := 36) dX12_loss_14 (by decide) (fun hc => ?_) (fun hc => ?_)
  · replace hK := mm_ip hc hK
    refine mm_sub C [0] rfl ?_
    exact w_X12_loss_36 hd C _ _ hK
  · replace hK := mm_in hc hK
    refine mm_iload_n C (pc := 17) 2 dX12_loss_17 rfl ?_
    refine mm_iload_n C (pc := 18) 3 dX12_loss_18 rfl ?_
    replace hK := mm_b2s hK; obtain ⟨v19, h19, e19, hK⟩ := hK
    refine mm_callS C (pc := 19) (d1 := 2) (As := [.int a2, .int a3]) (st := []) (vk := (some (.int v19))) ((S_X12_isAsked (by omega)) e19) tT_X12_isAsked wd_2661 wd_2662 (by omega) (by decide) rfl (by simp [mm_crf, mm_cti, mm_ctl]) rfl dX12_loss_19 ?_
    show V _ _ (.int v19 :: _) _
    refine mm_if_eq C (pc := 22) (tgt := 36) dX12_loss_22 (by decide) (fun hc => ?_) (fun hc => ?_)
    · replace hK := mm_ip hc hK
      refine mm_sub C [0] rfl ?_
      exact w_X12_loss_36 hd C _ _ hK
    · replace hK := mm_in hc hK
      refine mm_iload C (pc := 25) 4 dX12_loss_25 rfl ?_
      refine mm_i2l C (pc := 27) dX12_loss_27 ?_
      refine mm_lconst C (pc := 28) (v := (0 : Int64)) dX12_loss_28 (by decide) ?_
      refine mm_lconst C (pc := 29) (v := (1 : Int64)) dX12_loss_29 (by decide) ?_
      replace hK := mm_b2s hK; obtain ⟨v30, h30, e30, hK⟩ := hK
      refine mm_callS C (pc := 30) (d1 := 1) (As := [.long (a4.toInt64), .long (0 : Int64), .long (1 : Int64)]) (st := []) (vk := (some (.int v30))) ((S_X12_within (by omega)) e30) tT_X12_within wd_2157 wd_2158 (by omega) (by decide) rfl (by simp [mm_crf, mm_cti, mm_ctl]) rfl dX12_loss_30 ?_
      show V _ _ (.int v30 :: _) _
      refine mm_if_ne C (pc := 33) (tgt := 43) dX12_loss_33 (by decide) (fun hc => ?_) (fun hc => ?_)
      · replace hK := mm_in hc hK
        refine mm_aload_n C (pc := 43) 0 dX12_loss_43 rfl ?_
        refine mm_iload_n C (pc := 44) 1 dX12_loss_44 rfl ?_
        refine mm_iload_n C (pc := 45) 2 dX12_loss_45 rfl ?_
        refine mm_iload_n C (pc := 46) 3 dX12_loss_46 rfl ?_
        replace hK := mm_bd hK; obtain ⟨h47, e47, hK⟩ := hK
        obtain ⟨o47, e47⟩ := cV_some e47
        refine mm_callV C (pc := 47) (d1 := 2) (As := [.int a1, .int a2, .int a3]) (st := []) (vk := none) ((S_X12_laysLoss (by omega)) e47) tT_X12_laysLoss o47 (Or.inr ⟨_, rfl, rfl⟩) wd_2665 wd_2667 wd_135 (by omega) (by decide) rfl (by simp [mm_crf, mm_cti, mm_ctl]) rfl dX12_loss_47 ?_
        show V _ _ [] _
        refine mm_iload C (pc := 50) 4 dX12_loss_50 rfl ?_
        refine mm_if_ne C (pc := 52) (tgt := 62) dX12_loss_52 (by decide) (fun hc => ?_) (fun hc => ?_)
        · replace hK := mm_in hc hK
          refine mm_aload_n C (pc := 62) 0 dX12_loss_62 rfl ?_
          replace hK := mm_bd hK; obtain ⟨v63, e63, hK⟩ := hK
          refine mm_getl C (pc := 63) (k := 41) inGX12 rfl (by decide) wd_2040 dX12_loss_63 e63 ?_
          refine mm_sub C [] rfl ?_
          exact w_X12_loss_66 hd C _ _ hK
        · replace hK := mm_ip hc hK
          refine mm_aload_n C (pc := 55) 0 dX12_loss_55 rfl ?_
          replace hK := mm_bd hK; obtain ⟨v56, e56, hK⟩ := hK
          refine mm_getl C (pc := 56) (k := 40) inGX12 rfl (by decide) wd_2039 dX12_loss_56 e56 ?_
          refine mm_goto C (pc := 59) (tgt := 66) dX12_loss_59 (by decide) ?_
          refine mm_sub C [] rfl ?_
          exact w_X12_loss_66 hd C _ _ hK
      · replace hK := mm_ip hc hK
        refine mm_sub C [0] rfl ?_
        exact w_X12_loss_36 hd C _ _ hK
def F_X12_fewest_25 (l0 : Option Nat) (h : MH) : Option (Int32 × MH) := mm_b2 (cV h l0 12 (F_X12_fails l0 (1 : Int32) h)) fun v27 h27 => some (v27, h27)
set_option maxRecDepth 20000 in
set_option maxHeartbeats 4000000 in
theorem w_X12_fewest_25 {d : Nat} {V : Nat → List (Nat × Value) → List Value → MH → Prop} {r : Int32} {hz : MH} (hd : 3 ≤ d) (C : mm_C d yX12_fewest cX12_fewest 5 (some .int) (.inr (some (.int r))) hz V) (l0 : Option Nat) (h : MH) (hK : F_X12_fewest_25 l0 h = some (r, hz)) : V 25 [(0, va_rf l0)] [] h := by
  unfold F_X12_fewest_25 at hK
  refine mm_aload_n C (pc := 25) 0 dX12_fewest_25 rfl ?_
  refine mm_iconst C (pc := 26) (v := (1 : Int32)) dX12_fewest_26 (by decide) ?_
  replace hK := mm_b2s hK; obtain ⟨v27, h27, e27, hK⟩ := hK
  obtain ⟨o27, e27⟩ := cV_some e27
  refine mm_callV C (pc := 27) (d1 := 1) (As := [.int (1 : Int32)]) (st := []) (vk := (some (.int v27))) ((S_X12_fails (by omega)) e27) tT_X12_fails o27 (Or.inr ⟨_, rfl, rfl⟩) wd_2160 wd_2162 wd_61 (by omega) (by decide) rfl (by simp [mm_crf, mm_cti, mm_ctl]) rfl dX12_fewest_27 ?_
  show V _ _ (.int v27 :: _) _
  cases hK
  exact mm_iret C (pc := 30) rfl dX12_fewest_30 rfl rfl
def F_X12_fewest_34 : Nat → Option Nat → Int32 → Int32 → Int32 → Int32 → MH → Option (Int32 × MH)
  | 0 => fun _ _ _ _ _ _ => none
  | n + 1 => fun l0 l1 l2 l3 l4 h => if (8 : Int32) < l4 then (some (((-1) : Int32), h)) else ((cV h l0 12 (F_X12_laysLoss l0 l4 l1 l2 h)).bind fun h46 => (gL h46 l0 12 40).bind fun v50 => (gL h46 l0 12 41).bind fun v57 => if 0 < (lg_cmp (v50 * (l3.toInt64)) v57) then (F_X12_fewest_34 n l0 l1 l2 l3 (l4 + (1 : Int32)) h46) else (some (l4, h46)))
set_option maxRecDepth 20000 in
set_option maxHeartbeats 4000000 in
theorem w_X12_fewest_34 {d : Nat} {V : Nat → List (Nat × Value) → List Value → MH → Prop} {r : Int32} {hz : MH} (hd : 3 ≤ d) (C : mm_C d yX12_fewest cX12_fewest 5 (some .int) (.inr (some (.int r))) hz V) : ∀ (n : Nat) (l0 : Option Nat) (l1 : Int32) (l2 : Int32) (l3 : Int32) (l4 : Int32) (h : MH), F_X12_fewest_34 n l0 l1 l2 l3 l4 h = some (r, hz) → V 34 [(0, va_rf l0), (1, .int l1), (2, .int l2), (3, .int l3), (4, .int l4)] [] h := by
  intro n
  induction n with
  | zero => intro l0 l1 l2 l3 l4 h hK; cases hK
  | succ n ih =>
    intro l0 l1 l2 l3 l4 h hK
    replace hK : (if (8 : Int32) < l4 then (some (((-1) : Int32), h)) else ((cV h l0 12 (F_X12_laysLoss l0 l4 l1 l2 h)).bind fun h46 => (gL h46 l0 12 40).bind fun v50 => (gL h46 l0 12 41).bind fun v57 => if 0 < (lg_cmp (v50 * (l3.toInt64)) v57) then (F_X12_fewest_34 n l0 l1 l2 l3 (l4 + (1 : Int32)) h46) else (some (l4, h46)))) = some (r, hz) := hK
    refine mm_iload C (pc := 34) 4 dX12_fewest_34 rfl ?_
    refine mm_bipush C (pc := 36) (v := (8 : Int32)) dX12_fewest_36 (by decide) ?_
    refine mm_icmp_gt C (pc := 38) (tgt := 73) dX12_fewest_38 (by decide) (fun hc => ?_) (fun hc => ?_)
    · replace hK := mm_ip hc hK
      refine mm_iconst C (pc := 73) (v := ((-1) : Int32)) dX12_fewest_73 (by decide) ?_
      cases hK
      exact mm_iret C (pc := 74) rfl dX12_fewest_74 rfl rfl
    · replace hK := mm_in hc hK
      refine mm_aload_n C (pc := 41) 0 dX12_fewest_41 rfl ?_
      refine mm_iload C (pc := 42) 4 dX12_fewest_42 rfl ?_
      refine mm_iload_n C (pc := 44) 1 dX12_fewest_44 rfl ?_
      refine mm_iload_n C (pc := 45) 2 dX12_fewest_45 rfl ?_
      replace hK := mm_bd hK; obtain ⟨h46, e46, hK⟩ := hK
      obtain ⟨o46, e46⟩ := cV_some e46
      refine mm_callV C (pc := 46) (d1 := 2) (As := [.int l4, .int l1, .int l2]) (st := []) (vk := none) ((S_X12_laysLoss (by omega)) e46) tT_X12_laysLoss o46 (Or.inr ⟨_, rfl, rfl⟩) wd_2665 wd_2667 wd_135 (by omega) (by decide) rfl (by simp [mm_crf, mm_cti, mm_ctl]) rfl dX12_fewest_46 ?_
      show V _ _ [] _
      refine mm_aload_n C (pc := 49) 0 dX12_fewest_49 rfl ?_
      replace hK := mm_bd hK; obtain ⟨v50, e50, hK⟩ := hK
      refine mm_getl C (pc := 50) (k := 40) inGX12 rfl (by decide) wd_2039 dX12_fewest_50 e50 ?_
      refine mm_iload_n C (pc := 53) 3 dX12_fewest_53 rfl ?_
      refine mm_i2l C (pc := 54) dX12_fewest_54 ?_
      refine mm_lmul C (pc := 55) dX12_fewest_55 ?_
      refine mm_aload_n C (pc := 56) 0 dX12_fewest_56 rfl ?_
      replace hK := mm_bd hK; obtain ⟨v57, e57, hK⟩ := hK
      refine mm_getl C (pc := 57) (k := 41) inGX12 rfl (by decide) wd_2040 dX12_fewest_57 e57 ?_
      refine mm_lcmp C (pc := 60) dX12_fewest_60 ?_
      refine mm_if_gt C (pc := 61) (tgt := 67) dX12_fewest_61 (by decide) (fun hc => ?_) (fun hc => ?_)
      · replace hK := mm_ip hc hK
        refine mm_iinc C (pc := 67) (v := (l4 + (1 : Int32))) (lv' := [(4, .int (l4 + (1 : Int32))), (0, va_rf l0), (1, .int l1), (2, .int l2), (3, .int l3)]) 4 dX12_fewest_67 rfl rfl (by decide) rfl ?_
        refine mm_goto C (pc := 70) (tgt := 34) dX12_fewest_70 (by decide) ?_
        refine mm_sub C [1, 2, 3, 4, 0] rfl ?_
        exact ih _ _ _ _ _ _ hK
      · replace hK := mm_in hc hK
        refine mm_iload C (pc := 64) 4 dX12_fewest_64 rfl ?_
        cases hK
        exact mm_iret C (pc := 66) rfl dX12_fewest_66 rfl rfl
def F_X12_fewest (a0 : Option Nat) (a1 : Int32) (a2 : Int32) (a3 : Int32) (h : MH) : Option (Int32 × MH) := (pI h a0 12 4 (0 : Int32)).bind fun h2 => mm_b2 (F_X12_isAsked a1 a2 h2) fun v7 h7 => if v7 = 0 then (F_X12_fewest_25 a0 h7) else (mm_b2 (F_X12_within (a3.toInt64) (1 : Int64) (999 : Int64) h7) fun v19 h19 => if v19 = 0 then (F_X12_fewest_25 a0 h19) else (F_X12_fewest_34 mm_N a0 a1 a2 a3 (0 : Int32) h19))
set_option maxRecDepth 20000 in
set_option maxHeartbeats 4000000 in
theorem S_X12_fewest {d : Nat} (hd : 3 ≤ d) {a0 : Option Nat} {a1 : Int32} {a2 : Int32} {a3 : Int32} {h : MH} {r : Int32} {hz : MH} (hK : F_X12_fewest a0 a1 a2 a3 h = some (r, hz)) : mm_M yX12_fewest cX12_fewest 5 (some .int) d [va_rf a0, .int a1, .int a2, .int a3] h (.inr (some (.int r))) hz := by
  refine mm_ofV (by decide +kernel) (by simp [lg_sl, mm_crf, mm_cti, mm_ctl]) (fun V C => ?_)
  rw [show lv_args 0 [va_rf a0, .int a1, .int a2, .int a3] = [(0, va_rf a0), (1, .int a1), (2, .int a2), (3, .int a3)] by simp [lv_args, mm_crf, mm_cti, mm_ctl]]
  unfold F_X12_fewest at hK
  refine mm_aload_n C (pc := 0) 0 dX12_fewest_0 rfl ?_
  refine mm_iconst C (pc := 1) (v := (0 : Int32)) dX12_fewest_1 (by decide) ?_
  replace hK := mm_bd hK; obtain ⟨h2, e2, hK⟩ := hK
  refine mm_puti C (pc := 2) (k := 4) false (fun z => by cases z) inGX12 tyX12 tyX12_ok nmX12 rfl (by decide) wd_2003 rfl rfl dX12_fewest_2 e2 ?_
  refine mm_iload_n C (pc := 5) 1 dX12_fewest_5 rfl ?_
  refine mm_iload_n C (pc := 6) 2 dX12_fewest_6 rfl ?_
  replace hK := mm_b2s hK; obtain ⟨v7, h7, e7, hK⟩ := hK
  refine mm_callS C (pc := 7) (d1 := 2) (As := [.int a1, .int a2]) (st := []) (vk := (some (.int v7))) ((S_X12_isAsked (by omega)) e7) tT_X12_isAsked wd_2661 wd_2662 (by omega) (by decide) rfl (by simp [mm_crf, mm_cti, mm_ctl]) rfl dX12_fewest_7 ?_
  show V _ _ (.int v7 :: _) _
  refine mm_if_eq C (pc := 10) (tgt := 25) dX12_fewest_10 (by decide) (fun hc => ?_) (fun hc => ?_)
  · replace hK := mm_ip hc hK
    refine mm_sub C [0] rfl ?_
    exact w_X12_fewest_25 hd C _ _ hK
  · replace hK := mm_in hc hK
    refine mm_iload_n C (pc := 13) 3 dX12_fewest_13 rfl ?_
    refine mm_i2l C (pc := 14) dX12_fewest_14 ?_
    refine mm_lconst C (pc := 15) (v := (1 : Int64)) dX12_fewest_15 (by decide) ?_
    refine mm_ldc2 C (pc := 16) (v := (999 : Int64)) dX12_fewest_16 wd_2370 ?_
    replace hK := mm_b2s hK; obtain ⟨v19, h19, e19, hK⟩ := hK
    refine mm_callS C (pc := 19) (d1 := 1) (As := [.long (a3.toInt64), .long (1 : Int64), .long (999 : Int64)]) (st := []) (vk := (some (.int v19))) ((S_X12_within (by omega)) e19) tT_X12_within wd_2157 wd_2158 (by omega) (by decide) rfl (by simp [mm_crf, mm_cti, mm_ctl]) rfl dX12_fewest_19 ?_
    show V _ _ (.int v19 :: _) _
    refine mm_if_ne C (pc := 22) (tgt := 31) dX12_fewest_22 (by decide) (fun hc => ?_) (fun hc => ?_)
    · replace hK := mm_in hc hK
      refine mm_iconst C (pc := 31) (v := (0 : Int32)) dX12_fewest_31 (by decide) ?_
      refine mm_istore C (pc := 32) (i := 4) (lv' := [(4, .int (0 : Int32)), (0, va_rf a0), (1, .int a1), (2, .int a2), (3, .int a3)]) dX12_fewest_32 (by decide) rfl ?_
      refine mm_sub C [1, 2, 3, 4, 0] rfl ?_
      exact w_X12_fewest_34 hd C _ _ _ _ _ _ _ hK
    · replace hK := mm_ip hc hK
      refine mm_sub C [0] rfl ?_
      exact w_X12_fewest_25 hd C _ _ hK
theorem wd_2684 : Cond.constantLong RX12 532 (15 : Int64) ∈ lw_good := mm_wd 2684 (by decide +kernel) (by decide +kernel)
def F_X12_rulesFault_98 (s0 : Int32) (h : MH) : Option (Int32 × MH) := some (s0, h)
set_option maxRecDepth 20000 in
set_option maxHeartbeats 4000000 in
theorem w_X12_rulesFault_98 {d : Nat} {V : Nat → List (Nat × Value) → List Value → MH → Prop} {r : Int32} {hz : MH} (hd : 4 ≤ d) (C : mm_C d yX12_rulesFault cX12_rulesFault 5 (some .int) (.inr (some (.int r))) hz V) (s0 : Int32) (h : MH) (hK : F_X12_rulesFault_98 s0 h = some (r, hz)) : V 98 [] [.int s0] h := by
  unfold F_X12_rulesFault_98 at hK
  cases hK
  exact mm_iret C (pc := 98) rfl dX12_rulesFault_98 rfl rfl
def F_X12_rulesFault_89 (l3 : Int32) (h : MH) : Option (Int32 × MH) := if l3 = 0 then (F_X12_rulesFault_98 (3 : Int32) h) else (F_X12_rulesFault_98 (0 : Int32) h)
set_option maxRecDepth 20000 in
set_option maxHeartbeats 4000000 in
theorem w_X12_rulesFault_89 {d : Nat} {V : Nat → List (Nat × Value) → List Value → MH → Prop} {r : Int32} {hz : MH} (hd : 4 ≤ d) (C : mm_C d yX12_rulesFault cX12_rulesFault 5 (some .int) (.inr (some (.int r))) hz V) (l3 : Int32) (h : MH) (hK : F_X12_rulesFault_89 l3 h = some (r, hz)) : V 89 [(3, .int l3)] [] h := by
  unfold F_X12_rulesFault_89 at hK
  refine mm_iload_n C (pc := 89) 0 dX12_rulesFault_89 rfl ?_
  refine mm_if_eq C (pc := 90) (tgt := 97) dX12_rulesFault_90 (by decide) (fun hc => ?_) (fun hc => ?_)
  · replace hK := mm_ip hc hK
    refine mm_iconst C (pc := 97) (v := (3 : Int32)) dX12_rulesFault_97 (by decide) ?_
    refine mm_sub C [] rfl ?_
    exact w_X12_rulesFault_98 hd C _ _ hK
  · replace hK := mm_in hc hK
    refine mm_iconst C (pc := 93) (v := (0 : Int32)) dX12_rulesFault_93 (by decide) ?_
    refine mm_goto C (pc := 94) (tgt := 98) dX12_rulesFault_94 (by decide) ?_
    refine mm_sub C [] rfl ?_
    exact w_X12_rulesFault_98 hd C _ _ hK
def F_X12_rulesFault_51 : Nat → Option Nat → Int32 → Int32 → Int32 → MH → Option (Int32 × MH)
  | 0 => fun _ _ _ _ _ => none
  | n + 1 => fun l0 l1 l3 l4 h => (gR h l0 12 46).bind fun v54 => (aI h v54 0 l1).bind fun v58 => if v58 ≤ l4 then (F_X12_rulesFault_89 l3 h) else (if l3 = 0 then (F_X12_rulesFault_89 l3 h) else ((gR h l0 12 47).bind fun v68 => (aL h v68 (((30 : Int32) * l1) + l4)).bind fun v78 => mm_b2 (cV h l0 12 (F_X12_isLine l0 v78 h)) fun v79 h79 => F_X12_rulesFault_51 n l0 l1 v79 (l4 + (1 : Int32)) h79))
set_option maxRecDepth 20000 in
set_option maxHeartbeats 4000000 in
theorem w_X12_rulesFault_51 {d : Nat} {V : Nat → List (Nat × Value) → List Value → MH → Prop} {r : Int32} {hz : MH} (hd : 4 ≤ d) (C : mm_C d yX12_rulesFault cX12_rulesFault 5 (some .int) (.inr (some (.int r))) hz V) : ∀ (n : Nat) (l0 : Option Nat) (l1 : Int32) (l3 : Int32) (l4 : Int32) (h : MH), F_X12_rulesFault_51 n l0 l1 l3 l4 h = some (r, hz) → V 51 [(0, va_rf l0), (1, .int l1), (3, .int l3), (4, .int l4)] [] h := by
  intro n
  induction n with
  | zero => intro l0 l1 l3 l4 h hK; cases hK
  | succ n ih =>
    intro l0 l1 l3 l4 h hK
    replace hK : ((gR h l0 12 46).bind fun v54 => (aI h v54 0 l1).bind fun v58 => if v58 ≤ l4 then (F_X12_rulesFault_89 l3 h) else (if l3 = 0 then (F_X12_rulesFault_89 l3 h) else ((gR h l0 12 47).bind fun v68 => (aL h v68 (((30 : Int32) * l1) + l4)).bind fun v78 => mm_b2 (cV h l0 12 (F_X12_isLine l0 v78 h)) fun v79 h79 => F_X12_rulesFault_51 n l0 l1 v79 (l4 + (1 : Int32)) h79))) = some (r, hz) := hK
    refine mm_iload C (pc := 51) 3 dX12_rulesFault_51 rfl ?_
    refine mm_aload_n C (pc := 53) 0 dX12_rulesFault_53 rfl ?_
    replace hK := mm_bd hK; obtain ⟨v54, e54, hK⟩ := hK
    refine mm_getr C (pc := 54) (k := 46) inGX12 rfl (by decide) wd_2045 dX12_rulesFault_54 e54 ?_
    refine mm_iload_n C (pc := 57) 1 dX12_rulesFault_57 rfl ?_
    replace hK := mm_bd hK; obtain ⟨v58, e58, hK⟩ := hK
    refine mm_iald C (pc := 58) dX12_rulesFault_58 e58 ?_
    refine mm_icmp_ge C (pc := 59) (tgt := 89) dX12_rulesFault_59 (by decide) (fun hc => ?_) (fun hc => ?_)
    · replace hK := mm_ip hc hK
      refine mm_sub C [2] rfl ?_
      exact w_X12_rulesFault_89 hd C _ _ hK
    · replace hK := mm_in hc hK
      refine mm_iload_n C (pc := 62) 2 dX12_rulesFault_62 rfl ?_
      refine mm_if_eq C (pc := 63) (tgt := 89) dX12_rulesFault_63 (by decide) (fun hc => ?_) (fun hc => ?_)
      · replace hK := mm_ip hc hK
        refine mm_sub C [2] rfl ?_
        exact w_X12_rulesFault_89 hd C _ _ hK
      · replace hK := mm_in hc hK
        refine mm_aload_n C (pc := 66) 0 dX12_rulesFault_66 rfl ?_
        refine mm_aload_n C (pc := 67) 0 dX12_rulesFault_67 rfl ?_
        replace hK := mm_bd hK; obtain ⟨v68, e68, hK⟩ := hK
        refine mm_getr C (pc := 68) (k := 47) inGX12 rfl (by decide) wd_2046 dX12_rulesFault_68 e68 ?_
        refine mm_bipush C (pc := 71) (v := (30 : Int32)) dX12_rulesFault_71 (by decide) ?_
        refine mm_iload_n C (pc := 73) 1 dX12_rulesFault_73 rfl ?_
        refine mm_imul C (pc := 74) dX12_rulesFault_74 ?_
        refine mm_iload C (pc := 75) 3 dX12_rulesFault_75 rfl ?_
        refine mm_iadd C (pc := 77) dX12_rulesFault_77 ?_
        replace hK := mm_bd hK; obtain ⟨v78, e78, hK⟩ := hK
        refine mm_lald C (pc := 78) dX12_rulesFault_78 e78 ?_
        replace hK := mm_b2s hK; obtain ⟨v79, h79, e79, hK⟩ := hK
        obtain ⟨o79, e79⟩ := cV_some e79
        refine mm_callV C (pc := 79) (d1 := 2) (As := [.long v78]) (st := []) (vk := (some (.int v79))) ((S_X12_isLine (by omega)) e79) tT_X12_isLine o79 (Or.inr ⟨_, rfl, rfl⟩) wd_2307 wd_2309 wd_88 (by omega) (by decide) rfl (by simp [mm_crf, mm_cti, mm_ctl]) rfl dX12_rulesFault_79 ?_
        show V _ _ (.int v79 :: _) _
        refine mm_istore_n C (pc := 82) (i := 3) (lv' := [(3, .int v79), (0, va_rf l0), (1, .int l1), (4, .int l4)]) dX12_rulesFault_82 rfl (by decide) rfl ?_
        refine mm_iinc C (pc := 83) (v := (l4 + (1 : Int32))) (lv' := [(4, .int (l4 + (1 : Int32))), (3, .int v79), (0, va_rf l0), (1, .int l1)]) 3 dX12_rulesFault_83 rfl rfl (by decide) rfl ?_
        refine mm_goto C (pc := 86) (tgt := 51) dX12_rulesFault_86 (by decide) ?_
        refine mm_sub C [2, 3, 1, 0] rfl ?_
        exact ih _ _ _ _ _ hK
def F_X12_rulesFault_47 (l0 : Option Nat) (l1 : Int32) (s0 : Int32) (h : MH) : Option (Int32 × MH) := F_X12_rulesFault_51 mm_N l0 l1 s0 (0 : Int32) h
set_option maxRecDepth 20000 in
set_option maxHeartbeats 4000000 in
theorem w_X12_rulesFault_47 {d : Nat} {V : Nat → List (Nat × Value) → List Value → MH → Prop} {r : Int32} {hz : MH} (hd : 4 ≤ d) (C : mm_C d yX12_rulesFault cX12_rulesFault 5 (some .int) (.inr (some (.int r))) hz V) (l0 : Option Nat) (l1 : Int32) (s0 : Int32) (h : MH) (hK : F_X12_rulesFault_47 l0 l1 s0 h = some (r, hz)) : V 47 [(0, va_rf l0), (1, .int l1)] [.int s0] h := by
  unfold F_X12_rulesFault_47 at hK
  refine mm_istore_n C (pc := 47) (i := 3) (lv' := [(3, .int s0), (0, va_rf l0), (1, .int l1)]) dX12_rulesFault_47 rfl (by decide) rfl ?_
  refine mm_iconst C (pc := 48) (v := (0 : Int32)) dX12_rulesFault_48 (by decide) ?_
  refine mm_istore C (pc := 49) (i := 4) (lv' := [(4, .int (0 : Int32)), (3, .int s0), (0, va_rf l0), (1, .int l1)]) dX12_rulesFault_49 (by decide) rfl ?_
  refine mm_sub C [2, 3, 1, 0] rfl ?_
  exact w_X12_rulesFault_51 hd C _ _ _ _ _ _ hK
def F_X12_rulesFault_46 (l0 : Option Nat) (l1 : Int32) (h : MH) : Option (Int32 × MH) := F_X12_rulesFault_47 l0 l1 (0 : Int32) h
set_option maxRecDepth 20000 in
set_option maxHeartbeats 4000000 in
theorem w_X12_rulesFault_46 {d : Nat} {V : Nat → List (Nat × Value) → List Value → MH → Prop} {r : Int32} {hz : MH} (hd : 4 ≤ d) (C : mm_C d yX12_rulesFault cX12_rulesFault 5 (some .int) (.inr (some (.int r))) hz V) (l0 : Option Nat) (l1 : Int32) (h : MH) (hK : F_X12_rulesFault_46 l0 l1 h = some (r, hz)) : V 46 [(0, va_rf l0), (1, .int l1)] [] h := by
  unfold F_X12_rulesFault_46 at hK
  refine mm_iconst C (pc := 46) (v := (0 : Int32)) dX12_rulesFault_46 (by decide) ?_
  exact w_X12_rulesFault_47 hd C _ _ _ _ hK
def F_X12_rulesFault (a0 : Option Nat) (a1 : Int32) (h : MH) : Option (Int32 × MH) := mm_b2 (cV h a0 12 (F_X12_trayFault a0 a1 h)) fun v2 h2 => if v2 = 0 then ((gR h2 a0 12 46).bind fun v13 => (aI h2 v13 0 a1).bind fun v17 => if (v17 - v17 / (3 : Int32) * (3 : Int32)) = 0 then ((gR h2 a0 12 46).bind fun v24 => (aI h2 v24 0 a1).bind fun v28 => mm_b2 (F_X12_within (v28.toInt64) (3 : Int64) (15 : Int64) h2) fun v36 h36 => if v36 = 0 then (F_X12_rulesFault_46 a0 a1 h36) else (F_X12_rulesFault_47 a0 a1 (1 : Int32) h36)) else (F_X12_rulesFault_46 a0 a1 h2)) else (some (v2, h2))
set_option maxRecDepth 20000 in
set_option maxHeartbeats 4000000 in
theorem S_X12_rulesFault {d : Nat} (hd : 4 ≤ d) {a0 : Option Nat} {a1 : Int32} {h : MH} {r : Int32} {hz : MH} (hK : F_X12_rulesFault a0 a1 h = some (r, hz)) : mm_M yX12_rulesFault cX12_rulesFault 5 (some .int) d [va_rf a0, .int a1] h (.inr (some (.int r))) hz := by
  refine mm_ofV (by decide +kernel) (by simp [lg_sl, mm_crf, mm_cti, mm_ctl]) (fun V C => ?_)
  rw [show lv_args 0 [va_rf a0, .int a1] = [(0, va_rf a0), (1, .int a1)] by simp [lv_args, mm_crf, mm_cti, mm_ctl]]
  unfold F_X12_rulesFault at hK
  refine mm_aload_n C (pc := 0) 0 dX12_rulesFault_0 rfl ?_
  refine mm_iload_n C (pc := 1) 1 dX12_rulesFault_1 rfl ?_
  replace hK := mm_b2s hK; obtain ⟨v2, h2, e2, hK⟩ := hK
  obtain ⟨o2, e2⟩ := cV_some e2
  refine mm_callV C (pc := 2) (d1 := 3) (As := [.int a1]) (st := []) (vk := (some (.int v2))) ((S_X12_trayFault (by omega)) e2) tT_X12_trayFault o2 (Or.inr ⟨_, rfl, rfl⟩) wd_2436 wd_2438 wd_104 (by omega) (by decide) rfl (by simp [mm_crf, mm_cti, mm_ctl]) rfl dX12_rulesFault_2 ?_
  show V _ _ (.int v2 :: _) _
  refine mm_istore_n C (pc := 5) (i := 2) (lv' := [(2, .int v2), (0, va_rf a0), (1, .int a1)]) dX12_rulesFault_5 rfl (by decide) rfl ?_
  refine mm_iload_n C (pc := 6) 0 dX12_rulesFault_6 rfl ?_
  refine mm_if_eq C (pc := 7) (tgt := 12) dX12_rulesFault_7 (by decide) (fun hc => ?_) (fun hc => ?_)
  · replace hK := mm_ip hc hK
    refine mm_aload_n C (pc := 12) 1 dX12_rulesFault_12 rfl ?_
    replace hK := mm_bd hK; obtain ⟨v13, e13, hK⟩ := hK
    refine mm_getr C (pc := 13) (k := 46) inGX12 rfl (by decide) wd_2045 dX12_rulesFault_13 e13 ?_
    refine mm_iload_n C (pc := 16) 2 dX12_rulesFault_16 rfl ?_
    replace hK := mm_bd hK; obtain ⟨v17, e17, hK⟩ := hK
    refine mm_iald C (pc := 17) dX12_rulesFault_17 e17 ?_
    refine mm_iconst C (pc := 18) (v := (3 : Int32)) dX12_rulesFault_18 (by decide) ?_
    refine mm_irem C (pc := 19) dX12_rulesFault_19 (by decide) ?_
    refine mm_if_ne C (pc := 20) (tgt := 46) dX12_rulesFault_20 (by decide) (fun hc => ?_) (fun hc => ?_)
    · replace hK := mm_in hc hK
      refine mm_sub C [1, 2] rfl ?_
      exact w_X12_rulesFault_46 hd C _ _ _ hK
    · replace hK := mm_ip hc hK
      refine mm_aload_n C (pc := 23) 1 dX12_rulesFault_23 rfl ?_
      replace hK := mm_bd hK; obtain ⟨v24, e24, hK⟩ := hK
      refine mm_getr C (pc := 24) (k := 46) inGX12 rfl (by decide) wd_2045 dX12_rulesFault_24 e24 ?_
      refine mm_iload_n C (pc := 27) 2 dX12_rulesFault_27 rfl ?_
      replace hK := mm_bd hK; obtain ⟨v28, e28, hK⟩ := hK
      refine mm_iald C (pc := 28) dX12_rulesFault_28 e28 ?_
      refine mm_i2l C (pc := 29) dX12_rulesFault_29 ?_
      refine mm_ldc2 C (pc := 30) (v := (3 : Int64)) dX12_rulesFault_30 wd_2443 ?_
      refine mm_ldc2 C (pc := 33) (v := (15 : Int64)) dX12_rulesFault_33 wd_2684 ?_
      replace hK := mm_b2s hK; obtain ⟨v36, h36, e36, hK⟩ := hK
      refine mm_callS C (pc := 36) (d1 := 1) (As := [.long (v28.toInt64), .long (3 : Int64), .long (15 : Int64)]) (st := []) (vk := (some (.int v36))) ((S_X12_within (by omega)) e36) tT_X12_within wd_2157 wd_2158 (by omega) (by decide) rfl (by simp [mm_crf, mm_cti, mm_ctl]) rfl dX12_rulesFault_36 ?_
      show V _ _ (.int v36 :: _) _
      refine mm_if_eq C (pc := 39) (tgt := 46) dX12_rulesFault_39 (by decide) (fun hc => ?_) (fun hc => ?_)
      · replace hK := mm_ip hc hK
        refine mm_sub C [1, 2] rfl ?_
        exact w_X12_rulesFault_46 hd C _ _ _ hK
      · replace hK := mm_in hc hK
        refine mm_iconst C (pc := 42) (v := (1 : Int32)) dX12_rulesFault_42 (by decide) ?_
        refine mm_goto C (pc := 43) (tgt := 47) dX12_rulesFault_43 (by decide) ?_
        refine mm_sub C [1, 2] rfl ?_
        exact w_X12_rulesFault_47 hd C _ _ _ _ hK
  · replace hK := mm_in hc hK
    refine mm_iload_n C (pc := 10) 0 dX12_rulesFault_10 rfl ?_
    cases hK
    exact mm_iret C (pc := 11) rfl dX12_rulesFault_11 rfl rfl
def F_X12_ruled (a0 : Option Nat) (a1 : Int32) (a2 : Int32) (a3 : Int32) (a4 : Int32) (h : MH) : Option (Int32 × MH) := (gR h a0 12 0).bind fun v9 => (aI h v9 0 (1 : Int32)).bind fun v13 => if v13 = 0 then none else some (((((a1 * a3) + a4) + a2) - (((a1 * a3) + a4) + a2) / v13 * v13), h)
set_option maxRecDepth 20000 in
set_option maxHeartbeats 4000000 in
theorem S_X12_ruled {d : Nat} (hd : 1 ≤ d) {a0 : Option Nat} {a1 : Int32} {a2 : Int32} {a3 : Int32} {a4 : Int32} {h : MH} {r : Int32} {hz : MH} (hK : F_X12_ruled a0 a1 a2 a3 a4 h = some (r, hz)) : mm_M yX12_ruled cX12_ruled 5 (some .int) d [va_rf a0, .int a1, .int a2, .int a3, .int a4] h (.inr (some (.int r))) hz := by
  refine mm_ofV (by decide +kernel) (by simp [lg_sl, mm_crf, mm_cti, mm_ctl]) (fun V C => ?_)
  rw [show lv_args 0 [va_rf a0, .int a1, .int a2, .int a3, .int a4] = [(0, va_rf a0), (1, .int a1), (2, .int a2), (3, .int a3), (4, .int a4)] by simp [lv_args, mm_crf, mm_cti, mm_ctl]]
  unfold F_X12_ruled at hK
  refine mm_iload_n C (pc := 0) 1 dX12_ruled_0 rfl ?_
  refine mm_iload_n C (pc := 1) 3 dX12_ruled_1 rfl ?_
  refine mm_imul C (pc := 2) dX12_ruled_2 ?_
  refine mm_iload C (pc := 3) 4 dX12_ruled_3 rfl ?_
  refine mm_iadd C (pc := 5) dX12_ruled_5 ?_
  refine mm_iload_n C (pc := 6) 2 dX12_ruled_6 rfl ?_
  refine mm_iadd C (pc := 7) dX12_ruled_7 ?_
  refine mm_aload_n C (pc := 8) 0 dX12_ruled_8 rfl ?_
  replace hK := mm_bd hK; obtain ⟨v9, e9, hK⟩ := hK
  refine mm_getr C (pc := 9) (k := 0) inGX12 rfl (by decide) wd_1999 dX12_ruled_9 e9 ?_
  refine mm_iconst C (pc := 12) (v := (1 : Int32)) dX12_ruled_12 (by decide) ?_
  replace hK := mm_bd hK; obtain ⟨v13, e13, hK⟩ := hK
  refine mm_iald C (pc := 13) dX12_ruled_13 e13 ?_
  by_cases hz14 : v13 = 0
  · rw [if_pos hz14] at hK; cases hK
  replace hK := mm_in hz14 hK
  refine mm_irem C (pc := 14) dX12_ruled_14 hz14 ?_
  cases hK
  exact mm_iret C (pc := 15) rfl dX12_ruled_15 rfl rfl
theorem wd_2042 : Cond.fieldLink RX12 534 "CrossedLinesModel" "ruleMany" "I" ∈ lw_good := mm_wd 2042 (by decide +kernel) (by decide +kernel)
theorem wd_2692 : Cond.code yX12_ruled cX12_ruled 5 (some .int) ∈ lw_good := mm_wd 2692 (by decide +kernel) (by decide +kernel)
theorem tT_X12_ruled : mm_T yX12_ruled cX12_ruled 5 (some .int) 4 := ⟨wd_2692, wd_170, by decide +kernel, by decide +kernel, by decide +kernel, by decide +kernel⟩
theorem wd_2689 : Cond.methodLink RX12 537 yX12_ruled ∈ lw_good := mm_wd 2689 (by decide +kernel) (by decide +kernel)
theorem wd_2691 : Cond.instanceMethod yX12_ruled ∈ lw_good := mm_wd 2691 (by decide +kernel) (by decide +kernel)
theorem wd_138 : Cond.selects RX12 yX12_ruled yX12_ruled ∈ lw_good := mm_wd 138 (by decide +kernel) (by decide +kernel)
def F_X12_laysRules_131 (k7 : Option Nat → Int32 → Int32 → MH → Option MH) (k19 : Option Nat → Int32 → Int32 → Int32 → MH → Option MH) (l0 : Option Nat) (l1 : Int32) (l2 : Int32) (l3 : Int32) (h : MH) : Option MH := k19 l0 l1 l2 (l3 + (1 : Int32)) h
set_option maxRecDepth 20000 in
set_option maxHeartbeats 4000000 in
theorem w_X12_laysRules_131 {d : Nat} {V : Nat → List (Nat × Value) → List Value → MH → Prop} {hz : MH} {k7 : Option Nat → Int32 → Int32 → MH → Option MH} {k19 : Option Nat → Int32 → Int32 → Int32 → MH → Option MH} (hd : 2 ≤ d) (C : mm_C d yX12_laysRules cX12_laysRules 6 none (.inr none) hz V) (q7 : ∀ (x0 : Option Nat) (x1 : Int32) (x2 : Int32) (h : MH), k7 x0 x1 x2 h = some hz → V 7 [(0, va_rf x0), (1, .int x1), (2, .int x2)] [] h) (q19 : ∀ (x0 : Option Nat) (x1 : Int32) (x2 : Int32) (x3 : Int32) (h : MH), k19 x0 x1 x2 x3 h = some hz → V 19 [(0, va_rf x0), (1, .int x1), (2, .int x2), (3, .int x3)] [] h) (l0 : Option Nat) (l1 : Int32) (l2 : Int32) (l3 : Int32) (h : MH) (hK : F_X12_laysRules_131 k7 k19 l0 l1 l2 l3 h = some hz) : V 131 [(0, va_rf l0), (1, .int l1), (2, .int l2), (3, .int l3)] [] h := by
  unfold F_X12_laysRules_131 at hK
  refine mm_iinc C (pc := 131) (v := (l3 + (1 : Int32))) (lv' := [(3, .int (l3 + (1 : Int32))), (0, va_rf l0), (1, .int l1), (2, .int l2)]) 3 dX12_laysRules_131 rfl rfl (by decide) rfl ?_
  refine mm_goto C (pc := 134) (tgt := 19) dX12_laysRules_134 (by decide) ?_
  refine mm_sub C [1, 2, 3, 0] rfl ?_
  exact q19 _ _ _ _ _ hK
def F_X12_laysRules_90 (k7 : Option Nat → Int32 → Int32 → MH → Option MH) (k19 : Option Nat → Int32 → Int32 → Int32 → MH → Option MH) (k35 : Option Nat → Int32 → Int32 → Int32 → Int32 → Int32 → MH → Option MH) (l0 : Option Nat) (l1 : Int32) (l2 : Int32) (l3 : Int32) (l5 : Int32) (s0 : Int32) (h : MH) : Option MH := k35 l0 l1 l2 l3 s0 (l5 + (3 : Int32)) h
set_option maxRecDepth 20000 in
set_option maxHeartbeats 4000000 in
theorem w_X12_laysRules_90 {d : Nat} {V : Nat → List (Nat × Value) → List Value → MH → Prop} {hz : MH} {k7 : Option Nat → Int32 → Int32 → MH → Option MH} {k19 : Option Nat → Int32 → Int32 → Int32 → MH → Option MH} {k35 : Option Nat → Int32 → Int32 → Int32 → Int32 → Int32 → MH → Option MH} (hd : 2 ≤ d) (C : mm_C d yX12_laysRules cX12_laysRules 6 none (.inr none) hz V) (q7 : ∀ (x0 : Option Nat) (x1 : Int32) (x2 : Int32) (h : MH), k7 x0 x1 x2 h = some hz → V 7 [(0, va_rf x0), (1, .int x1), (2, .int x2)] [] h) (q19 : ∀ (x0 : Option Nat) (x1 : Int32) (x2 : Int32) (x3 : Int32) (h : MH), k19 x0 x1 x2 x3 h = some hz → V 19 [(0, va_rf x0), (1, .int x1), (2, .int x2), (3, .int x3)] [] h) (q35 : ∀ (x0 : Option Nat) (x1 : Int32) (x2 : Int32) (x3 : Int32) (x4 : Int32) (x5 : Int32) (h : MH), k35 x0 x1 x2 x3 x4 x5 h = some hz → V 35 [(0, va_rf x0), (1, .int x1), (2, .int x2), (3, .int x3), (4, .int x4), (5, .int x5)] [] h) (l0 : Option Nat) (l1 : Int32) (l2 : Int32) (l3 : Int32) (l5 : Int32) (s0 : Int32) (h : MH) (hK : F_X12_laysRules_90 k7 k19 k35 l0 l1 l2 l3 l5 s0 h = some hz) : V 90 [(0, va_rf l0), (1, .int l1), (2, .int l2), (3, .int l3), (5, .int l5)] [.int s0] h := by
  unfold F_X12_laysRules_90 at hK
  refine mm_istore C (pc := 90) (i := 4) (lv' := [(4, .int s0), (0, va_rf l0), (1, .int l1), (2, .int l2), (3, .int l3), (5, .int l5)]) dX12_laysRules_90 (by decide) rfl ?_
  refine mm_iinc C (pc := 92) (v := (l5 + (3 : Int32))) (lv' := [(5, .int (l5 + (3 : Int32))), (4, .int s0), (0, va_rf l0), (1, .int l1), (2, .int l2), (3, .int l3)]) 5 dX12_laysRules_92 rfl rfl (by decide) rfl ?_
  refine mm_goto C (pc := 95) (tgt := 35) dX12_laysRules_95 (by decide) ?_
  refine mm_sub C [2, 3, 4, 5, 1, 0] rfl ?_
  exact q35 _ _ _ _ _ _ _ hK
def F_X12_laysRules_89 (k7 : Option Nat → Int32 → Int32 → MH → Option MH) (k19 : Option Nat → Int32 → Int32 → Int32 → MH → Option MH) (k35 : Option Nat → Int32 → Int32 → Int32 → Int32 → Int32 → MH → Option MH) (l0 : Option Nat) (l1 : Int32) (l2 : Int32) (l3 : Int32) (l5 : Int32) (h : MH) : Option MH := F_X12_laysRules_90 k7 k19 k35 l0 l1 l2 l3 l5 (0 : Int32) h
set_option maxRecDepth 20000 in
set_option maxHeartbeats 4000000 in
theorem w_X12_laysRules_89 {d : Nat} {V : Nat → List (Nat × Value) → List Value → MH → Prop} {hz : MH} {k7 : Option Nat → Int32 → Int32 → MH → Option MH} {k19 : Option Nat → Int32 → Int32 → Int32 → MH → Option MH} {k35 : Option Nat → Int32 → Int32 → Int32 → Int32 → Int32 → MH → Option MH} (hd : 2 ≤ d) (C : mm_C d yX12_laysRules cX12_laysRules 6 none (.inr none) hz V) (q7 : ∀ (x0 : Option Nat) (x1 : Int32) (x2 : Int32) (h : MH), k7 x0 x1 x2 h = some hz → V 7 [(0, va_rf x0), (1, .int x1), (2, .int x2)] [] h) (q19 : ∀ (x0 : Option Nat) (x1 : Int32) (x2 : Int32) (x3 : Int32) (h : MH), k19 x0 x1 x2 x3 h = some hz → V 19 [(0, va_rf x0), (1, .int x1), (2, .int x2), (3, .int x3)] [] h) (q35 : ∀ (x0 : Option Nat) (x1 : Int32) (x2 : Int32) (x3 : Int32) (x4 : Int32) (x5 : Int32) (h : MH), k35 x0 x1 x2 x3 x4 x5 h = some hz → V 35 [(0, va_rf x0), (1, .int x1), (2, .int x2), (3, .int x3), (4, .int x4), (5, .int x5)] [] h) (l0 : Option Nat) (l1 : Int32) (l2 : Int32) (l3 : Int32) (l5 : Int32) (h : MH) (hK : F_X12_laysRules_89 k7 k19 k35 l0 l1 l2 l3 l5 h = some hz) : V 89 [(0, va_rf l0), (1, .int l1), (2, .int l2), (3, .int l3), (5, .int l5)] [] h := by
  unfold F_X12_laysRules_89 at hK
  refine mm_iconst C (pc := 89) (v := (0 : Int32)) dX12_laysRules_89 (by decide) ?_
  exact w_X12_laysRules_90 hd C (fun z0 z1 z2 z3 hK => q7 z0 z1 z2 z3 hK) (fun z0 z1 z2 z3 z4 hK => q19 z0 z1 z2 z3 z4 hK) (fun z0 z1 z2 z3 z4 z5 z6 hK => q35 z0 z1 z2 z3 z4 z5 z6 hK) _ _ _ _ _ _ _ hK
def F_X12_laysRules_35 (k7 : Option Nat → Int32 → Int32 → MH → Option MH) (k19 : Option Nat → Int32 → Int32 → Int32 → MH → Option MH) : Nat → Option Nat → Int32 → Int32 → Int32 → Int32 → Int32 → MH → Option MH
  | 0 => fun _ _ _ _ _ _ _ => none
  | n + 1 => fun l0 l1 l2 l3 l4 l5 h => (gR h l0 12 46).bind fun v38 => (aI h v38 0 l1).bind fun v42 => if v42 ≤ l5 then (if l4 = 0 then (F_X12_laysRules_131 k7 k19 l0 l1 l2 l3 h) else ((gR h l0 12 42).bind fun v107 => (gI h l0 12 43).bind fun v111 => (sI h v107 0 v111 (((10 : Int32) * l2) + l3)).bind fun h120 => (gI h120 l0 12 43).bind fun v123 => (pI h120 l0 12 43 (v123 + (1 : Int32))).bind fun h128 => F_X12_laysRules_131 k7 k19 l0 l1 l2 l3 h128)) else (if l4 = 0 then (F_X12_laysRules_89 k7 k19 (F_X12_laysRules_35 k7 k19 n) l0 l1 l2 l3 l5 h) else (mm_b2 (cV h l0 12 (F_X12_told l0 l1 l5 h)) fun v58 h58 => mm_b2 (cV h58 l0 12 (F_X12_told l0 l1 (l5 + (1 : Int32)) h58)) fun v67 h67 => mm_b2 (cV h67 l0 12 (F_X12_ruled l0 l2 l3 v58 v67 h67)) fun v70 h70 => mm_b2 (cV h70 l0 12 (F_X12_told l0 l1 (l5 + (2 : Int32)) h70)) fun v79 h79 => if v70 = v79 then (F_X12_laysRules_90 k7 k19 (F_X12_laysRules_35 k7 k19 n) l0 l1 l2 l3 l5 (1 : Int32) h79) else (F_X12_laysRules_89 k7 k19 (F_X12_laysRules_35 k7 k19 n) l0 l1 l2 l3 l5 h79)))
set_option maxRecDepth 20000 in
set_option maxHeartbeats 4000000 in
theorem w_X12_laysRules_35 {d : Nat} {V : Nat → List (Nat × Value) → List Value → MH → Prop} {hz : MH} {k7 : Option Nat → Int32 → Int32 → MH → Option MH} {k19 : Option Nat → Int32 → Int32 → Int32 → MH → Option MH} (hd : 2 ≤ d) (C : mm_C d yX12_laysRules cX12_laysRules 6 none (.inr none) hz V) (q7 : ∀ (x0 : Option Nat) (x1 : Int32) (x2 : Int32) (h : MH), k7 x0 x1 x2 h = some hz → V 7 [(0, va_rf x0), (1, .int x1), (2, .int x2)] [] h) (q19 : ∀ (x0 : Option Nat) (x1 : Int32) (x2 : Int32) (x3 : Int32) (h : MH), k19 x0 x1 x2 x3 h = some hz → V 19 [(0, va_rf x0), (1, .int x1), (2, .int x2), (3, .int x3)] [] h) : ∀ (n : Nat) (l0 : Option Nat) (l1 : Int32) (l2 : Int32) (l3 : Int32) (l4 : Int32) (l5 : Int32) (h : MH), F_X12_laysRules_35 k7 k19 n l0 l1 l2 l3 l4 l5 h = some hz → V 35 [(0, va_rf l0), (1, .int l1), (2, .int l2), (3, .int l3), (4, .int l4), (5, .int l5)] [] h := by
  intro n
  induction n with
  | zero => intro l0 l1 l2 l3 l4 l5 h hK; cases hK
  | succ n ih =>
    intro l0 l1 l2 l3 l4 l5 h hK
    replace hK : ((gR h l0 12 46).bind fun v38 => (aI h v38 0 l1).bind fun v42 => if v42 ≤ l5 then (if l4 = 0 then (F_X12_laysRules_131 k7 k19 l0 l1 l2 l3 h) else ((gR h l0 12 42).bind fun v107 => (gI h l0 12 43).bind fun v111 => (sI h v107 0 v111 (((10 : Int32) * l2) + l3)).bind fun h120 => (gI h120 l0 12 43).bind fun v123 => (pI h120 l0 12 43 (v123 + (1 : Int32))).bind fun h128 => F_X12_laysRules_131 k7 k19 l0 l1 l2 l3 h128)) else (if l4 = 0 then (F_X12_laysRules_89 k7 k19 (F_X12_laysRules_35 k7 k19 n) l0 l1 l2 l3 l5 h) else (mm_b2 (cV h l0 12 (F_X12_told l0 l1 l5 h)) fun v58 h58 => mm_b2 (cV h58 l0 12 (F_X12_told l0 l1 (l5 + (1 : Int32)) h58)) fun v67 h67 => mm_b2 (cV h67 l0 12 (F_X12_ruled l0 l2 l3 v58 v67 h67)) fun v70 h70 => mm_b2 (cV h70 l0 12 (F_X12_told l0 l1 (l5 + (2 : Int32)) h70)) fun v79 h79 => if v70 = v79 then (F_X12_laysRules_90 k7 k19 (F_X12_laysRules_35 k7 k19 n) l0 l1 l2 l3 l5 (1 : Int32) h79) else (F_X12_laysRules_89 k7 k19 (F_X12_laysRules_35 k7 k19 n) l0 l1 l2 l3 l5 h79)))) = some hz := hK
    refine mm_iload C (pc := 35) 5 dX12_laysRules_35 rfl ?_
    refine mm_aload_n C (pc := 37) 0 dX12_laysRules_37 rfl ?_
    replace hK := mm_bd hK; obtain ⟨v38, e38, hK⟩ := hK
    refine mm_getr C (pc := 38) (k := 46) inGX12 rfl (by decide) wd_2045 dX12_laysRules_38 e38 ?_
    refine mm_iload_n C (pc := 41) 1 dX12_laysRules_41 rfl ?_
    replace hK := mm_bd hK; obtain ⟨v42, e42, hK⟩ := hK
    refine mm_iald C (pc := 42) dX12_laysRules_42 e42 ?_
    refine mm_icmp_ge C (pc := 43) (tgt := 98) dX12_laysRules_43 (by decide) (fun hc => ?_) (fun hc => ?_)
    · replace hK := mm_ip hc hK
      refine mm_iload C (pc := 98) 4 dX12_laysRules_98 rfl ?_
      refine mm_if_ne C (pc := 100) (tgt := 106) dX12_laysRules_100 (by decide) (fun hc => ?_) (fun hc => ?_)
      · replace hK := mm_in hc hK
        refine mm_aload_n C (pc := 106) 0 dX12_laysRules_106 rfl ?_
        replace hK := mm_bd hK; obtain ⟨v107, e107, hK⟩ := hK
        refine mm_getr C (pc := 107) (k := 42) inGX12 rfl (by decide) wd_2041 dX12_laysRules_107 e107 ?_
        refine mm_aload_n C (pc := 110) 0 dX12_laysRules_110 rfl ?_
        replace hK := mm_bd hK; obtain ⟨v111, e111, hK⟩ := hK
        refine mm_geti C (pc := 111) (k := 43) inGX12 rfl (by decide) wd_2042 dX12_laysRules_111 e111 ?_
        refine mm_bipush C (pc := 114) (v := (10 : Int32)) dX12_laysRules_114 (by decide) ?_
        refine mm_iload_n C (pc := 116) 2 dX12_laysRules_116 rfl ?_
        refine mm_imul C (pc := 117) dX12_laysRules_117 ?_
        refine mm_iload_n C (pc := 118) 3 dX12_laysRules_118 rfl ?_
        refine mm_iadd C (pc := 119) dX12_laysRules_119 ?_
        replace hK := mm_bd hK; obtain ⟨h120, e120, hK⟩ := hK
        refine mm_iast C (pc := 120) dX12_laysRules_120 e120 ?_
        refine mm_aload_n C (pc := 121) 0 dX12_laysRules_121 rfl ?_
        refine mm_dup C (pc := 122) dX12_laysRules_122 mm_crf ?_
        replace hK := mm_bd hK; obtain ⟨v123, e123, hK⟩ := hK
        refine mm_geti C (pc := 123) (k := 43) inGX12 rfl (by decide) wd_2042 dX12_laysRules_123 e123 ?_
        refine mm_iconst C (pc := 126) (v := (1 : Int32)) dX12_laysRules_126 (by decide) ?_
        refine mm_iadd C (pc := 127) dX12_laysRules_127 ?_
        replace hK := mm_bd hK; obtain ⟨h128, e128, hK⟩ := hK
        refine mm_puti C (pc := 128) (k := 43) false (fun z => by cases z) inGX12 tyX12 tyX12_ok nmX12 rfl (by decide) wd_2042 rfl rfl dX12_laysRules_128 e128 ?_
        refine mm_sub C [0, 1, 2, 3] rfl ?_
        exact w_X12_laysRules_131 hd C (fun z0 z1 z2 z3 hK => q7 z0 z1 z2 z3 hK) (fun z0 z1 z2 z3 z4 hK => q19 z0 z1 z2 z3 z4 hK) _ _ _ _ _ hK
      · replace hK := mm_ip hc hK
        refine mm_goto C (pc := 103) (tgt := 131) dX12_laysRules_103 (by decide) ?_
        refine mm_sub C [0, 1, 2, 3] rfl ?_
        exact w_X12_laysRules_131 hd C (fun z0 z1 z2 z3 hK => q7 z0 z1 z2 z3 hK) (fun z0 z1 z2 z3 z4 hK => q19 z0 z1 z2 z3 z4 hK) _ _ _ _ _ hK
    · replace hK := mm_in hc hK
      refine mm_iload C (pc := 46) 4 dX12_laysRules_46 rfl ?_
      refine mm_if_eq C (pc := 48) (tgt := 89) dX12_laysRules_48 (by decide) (fun hc => ?_) (fun hc => ?_)
      · replace hK := mm_ip hc hK
        refine mm_sub C [0, 1, 2, 3, 5] rfl ?_
        exact w_X12_laysRules_89 hd C (fun z0 z1 z2 z3 hK => q7 z0 z1 z2 z3 hK) (fun z0 z1 z2 z3 z4 hK => q19 z0 z1 z2 z3 z4 hK) (fun z0 z1 z2 z3 z4 z5 z6 hK => ih z0 z1 z2 z3 z4 z5 z6 hK) _ _ _ _ _ _ hK
      · replace hK := mm_in hc hK
        refine mm_aload_n C (pc := 51) 0 dX12_laysRules_51 rfl ?_
        refine mm_iload_n C (pc := 52) 2 dX12_laysRules_52 rfl ?_
        refine mm_iload_n C (pc := 53) 3 dX12_laysRules_53 rfl ?_
        refine mm_aload_n C (pc := 54) 0 dX12_laysRules_54 rfl ?_
        refine mm_iload_n C (pc := 55) 1 dX12_laysRules_55 rfl ?_
        refine mm_iload C (pc := 56) 5 dX12_laysRules_56 rfl ?_
        replace hK := mm_b2s hK; obtain ⟨v58, h58, e58, hK⟩ := hK
        obtain ⟨o58, e58⟩ := cV_some e58
        refine mm_callV C (pc := 58) (d1 := 1) (As := [.int l1, .int l5]) (st := [.int l3, .int l2, va_rf l0]) (vk := (some (.int v58))) ((S_X12_told (by omega)) e58) tT_X12_told o58 (Or.inr ⟨_, rfl, rfl⟩) wd_2582 wd_2584 wd_124 (by omega) (by decide) rfl (by simp [mm_crf, mm_cti, mm_ctl]) rfl dX12_laysRules_58 ?_
        show V _ _ (.int v58 :: _) _
        refine mm_aload_n C (pc := 61) 0 dX12_laysRules_61 rfl ?_
        refine mm_iload_n C (pc := 62) 1 dX12_laysRules_62 rfl ?_
        refine mm_iload C (pc := 63) 5 dX12_laysRules_63 rfl ?_
        refine mm_iconst C (pc := 65) (v := (1 : Int32)) dX12_laysRules_65 (by decide) ?_
        refine mm_iadd C (pc := 66) dX12_laysRules_66 ?_
        replace hK := mm_b2s hK; obtain ⟨v67, h67, e67, hK⟩ := hK
        obtain ⟨o67, e67⟩ := cV_some e67
        refine mm_callV C (pc := 67) (d1 := 1) (As := [.int l1, .int (l5 + (1 : Int32))]) (st := [.int v58, .int l3, .int l2, va_rf l0]) (vk := (some (.int v67))) ((S_X12_told (by omega)) e67) tT_X12_told o67 (Or.inr ⟨_, rfl, rfl⟩) wd_2582 wd_2584 wd_124 (by omega) (by decide) rfl (by simp [mm_crf, mm_cti, mm_ctl]) rfl dX12_laysRules_67 ?_
        show V _ _ (.int v67 :: _) _
        replace hK := mm_b2s hK; obtain ⟨v70, h70, e70, hK⟩ := hK
        obtain ⟨o70, e70⟩ := cV_some e70
        refine mm_callV C (pc := 70) (d1 := 1) (As := [.int l2, .int l3, .int v58, .int v67]) (st := []) (vk := (some (.int v70))) ((S_X12_ruled (by omega)) e70) tT_X12_ruled o70 (Or.inr ⟨_, rfl, rfl⟩) wd_2689 wd_2691 wd_138 (by omega) (by decide) rfl (by simp [mm_crf, mm_cti, mm_ctl]) rfl dX12_laysRules_70 ?_
        show V _ _ (.int v70 :: _) _
        refine mm_aload_n C (pc := 73) 0 dX12_laysRules_73 rfl ?_
        refine mm_iload_n C (pc := 74) 1 dX12_laysRules_74 rfl ?_
        refine mm_iload C (pc := 75) 5 dX12_laysRules_75 rfl ?_
        refine mm_iconst C (pc := 77) (v := (2 : Int32)) dX12_laysRules_77 (by decide) ?_
        refine mm_iadd C (pc := 78) dX12_laysRules_78 ?_
        replace hK := mm_b2s hK; obtain ⟨v79, h79, e79, hK⟩ := hK
        obtain ⟨o79, e79⟩ := cV_some e79
        refine mm_callV C (pc := 79) (d1 := 1) (As := [.int l1, .int (l5 + (2 : Int32))]) (st := [.int v70]) (vk := (some (.int v79))) ((S_X12_told (by omega)) e79) tT_X12_told o79 (Or.inr ⟨_, rfl, rfl⟩) wd_2582 wd_2584 wd_124 (by omega) (by decide) rfl (by simp [mm_crf, mm_cti, mm_ctl]) rfl dX12_laysRules_79 ?_
        show V _ _ (.int v79 :: _) _
        refine mm_icmp_ne C (pc := 82) (tgt := 89) dX12_laysRules_82 (by decide) (fun hc => ?_) (fun hc => ?_)
        · replace hK := mm_in hc hK
          refine mm_sub C [0, 1, 2, 3, 5] rfl ?_
          exact w_X12_laysRules_89 hd C (fun z0 z1 z2 z3 hK => q7 z0 z1 z2 z3 hK) (fun z0 z1 z2 z3 z4 hK => q19 z0 z1 z2 z3 z4 hK) (fun z0 z1 z2 z3 z4 z5 z6 hK => ih z0 z1 z2 z3 z4 z5 z6 hK) _ _ _ _ _ _ hK
        · replace hK := mm_ip hc hK
          refine mm_iconst C (pc := 85) (v := (1 : Int32)) dX12_laysRules_85 (by decide) ?_
          refine mm_goto C (pc := 86) (tgt := 90) dX12_laysRules_86 (by decide) ?_
          refine mm_sub C [0, 1, 2, 3, 5] rfl ?_
          exact w_X12_laysRules_90 hd C (fun z0 z1 z2 z3 hK => q7 z0 z1 z2 z3 hK) (fun z0 z1 z2 z3 z4 hK => q19 z0 z1 z2 z3 z4 hK) (fun z0 z1 z2 z3 z4 z5 z6 hK => ih z0 z1 z2 z3 z4 z5 z6 hK) _ _ _ _ _ _ _ hK
def F_X12_laysRules_19 (k7 : Option Nat → Int32 → Int32 → MH → Option MH) : Nat → Option Nat → Int32 → Int32 → Int32 → MH → Option MH
  | 0 => fun _ _ _ _ _ => none
  | n + 1 => fun l0 l1 l2 l3 h => (gR h l0 12 0).bind fun v21 => (aI h v21 0 (1 : Int32)).bind fun v25 => if v25 ≤ l3 then (k7 l0 l1 (l2 + (1 : Int32)) h) else (F_X12_laysRules_35 k7 (F_X12_laysRules_19 k7 n) mm_N l0 l1 l2 l3 (1 : Int32) (0 : Int32) h)
set_option maxRecDepth 20000 in
set_option maxHeartbeats 4000000 in
theorem w_X12_laysRules_19 {d : Nat} {V : Nat → List (Nat × Value) → List Value → MH → Prop} {hz : MH} {k7 : Option Nat → Int32 → Int32 → MH → Option MH} (hd : 2 ≤ d) (C : mm_C d yX12_laysRules cX12_laysRules 6 none (.inr none) hz V) (q7 : ∀ (x0 : Option Nat) (x1 : Int32) (x2 : Int32) (h : MH), k7 x0 x1 x2 h = some hz → V 7 [(0, va_rf x0), (1, .int x1), (2, .int x2)] [] h) : ∀ (n : Nat) (l0 : Option Nat) (l1 : Int32) (l2 : Int32) (l3 : Int32) (h : MH), F_X12_laysRules_19 k7 n l0 l1 l2 l3 h = some hz → V 19 [(0, va_rf l0), (1, .int l1), (2, .int l2), (3, .int l3)] [] h := by
  intro n
  induction n with
  | zero => intro l0 l1 l2 l3 h hK; cases hK
  | succ n ih =>
    intro l0 l1 l2 l3 h hK
    replace hK : ((gR h l0 12 0).bind fun v21 => (aI h v21 0 (1 : Int32)).bind fun v25 => if v25 ≤ l3 then (k7 l0 l1 (l2 + (1 : Int32)) h) else (F_X12_laysRules_35 k7 (F_X12_laysRules_19 k7 n) mm_N l0 l1 l2 l3 (1 : Int32) (0 : Int32) h)) = some hz := hK
    refine mm_iload_n C (pc := 19) 3 dX12_laysRules_19 rfl ?_
    refine mm_aload_n C (pc := 20) 0 dX12_laysRules_20 rfl ?_
    replace hK := mm_bd hK; obtain ⟨v21, e21, hK⟩ := hK
    refine mm_getr C (pc := 21) (k := 0) inGX12 rfl (by decide) wd_1999 dX12_laysRules_21 e21 ?_
    refine mm_iconst C (pc := 24) (v := (1 : Int32)) dX12_laysRules_24 (by decide) ?_
    replace hK := mm_bd hK; obtain ⟨v25, e25, hK⟩ := hK
    refine mm_iald C (pc := 25) dX12_laysRules_25 e25 ?_
    refine mm_icmp_ge C (pc := 26) (tgt := 137) dX12_laysRules_26 (by decide) (fun hc => ?_) (fun hc => ?_)
    · replace hK := mm_ip hc hK
      refine mm_iinc C (pc := 137) (v := (l2 + (1 : Int32))) (lv' := [(2, .int (l2 + (1 : Int32))), (0, va_rf l0), (1, .int l1), (3, .int l3)]) 2 dX12_laysRules_137 rfl rfl (by decide) rfl ?_
      refine mm_goto C (pc := 140) (tgt := 7) dX12_laysRules_140 (by decide) ?_
      refine mm_sub C [1, 2, 0] rfl ?_
      exact q7 _ _ _ _ hK
    · replace hK := mm_in hc hK
      refine mm_iconst C (pc := 29) (v := (1 : Int32)) dX12_laysRules_29 (by decide) ?_
      refine mm_istore C (pc := 30) (i := 4) (lv' := [(4, .int (1 : Int32)), (0, va_rf l0), (1, .int l1), (2, .int l2), (3, .int l3)]) dX12_laysRules_30 (by decide) rfl ?_
      refine mm_iconst C (pc := 32) (v := (0 : Int32)) dX12_laysRules_32 (by decide) ?_
      refine mm_istore C (pc := 33) (i := 5) (lv' := [(5, .int (0 : Int32)), (4, .int (1 : Int32)), (0, va_rf l0), (1, .int l1), (2, .int l2), (3, .int l3)]) dX12_laysRules_33 (by decide) rfl ?_
      refine mm_sub C [2, 3, 4, 5, 1, 0] rfl ?_
      exact w_X12_laysRules_35 hd C (fun z0 z1 z2 z3 hK => q7 z0 z1 z2 z3 hK) (fun z0 z1 z2 z3 z4 hK => ih z0 z1 z2 z3 z4 hK) _ _ _ _ _ _ _ _ hK
def F_X12_laysRules_7 : Nat → Option Nat → Int32 → Int32 → MH → Option MH
  | 0 => fun _ _ _ _ => none
  | n + 1 => fun l0 l1 l2 h => (gR h l0 12 0).bind fun v9 => (aI h v9 0 (1 : Int32)).bind fun v13 => if v13 ≤ l2 then (some h) else (F_X12_laysRules_19 (F_X12_laysRules_7 n) mm_N l0 l1 l2 (0 : Int32) h)
set_option maxRecDepth 20000 in
set_option maxHeartbeats 4000000 in
theorem w_X12_laysRules_7 {d : Nat} {V : Nat → List (Nat × Value) → List Value → MH → Prop} {hz : MH} (hd : 2 ≤ d) (C : mm_C d yX12_laysRules cX12_laysRules 6 none (.inr none) hz V) : ∀ (n : Nat) (l0 : Option Nat) (l1 : Int32) (l2 : Int32) (h : MH), F_X12_laysRules_7 n l0 l1 l2 h = some hz → V 7 [(0, va_rf l0), (1, .int l1), (2, .int l2)] [] h := by
  intro n
  induction n with
  | zero => intro l0 l1 l2 h hK; cases hK
  | succ n ih =>
    intro l0 l1 l2 h hK
    replace hK : ((gR h l0 12 0).bind fun v9 => (aI h v9 0 (1 : Int32)).bind fun v13 => if v13 ≤ l2 then (some h) else (F_X12_laysRules_19 (F_X12_laysRules_7 n) mm_N l0 l1 l2 (0 : Int32) h)) = some hz := hK
    refine mm_iload_n C (pc := 7) 2 dX12_laysRules_7 rfl ?_
    refine mm_aload_n C (pc := 8) 0 dX12_laysRules_8 rfl ?_
    replace hK := mm_bd hK; obtain ⟨v9, e9, hK⟩ := hK
    refine mm_getr C (pc := 9) (k := 0) inGX12 rfl (by decide) wd_1999 dX12_laysRules_9 e9 ?_
    refine mm_iconst C (pc := 12) (v := (1 : Int32)) dX12_laysRules_12 (by decide) ?_
    replace hK := mm_bd hK; obtain ⟨v13, e13, hK⟩ := hK
    refine mm_iald C (pc := 13) dX12_laysRules_13 e13 ?_
    refine mm_icmp_ge C (pc := 14) (tgt := 143) dX12_laysRules_14 (by decide) (fun hc => ?_) (fun hc => ?_)
    · replace hK := mm_ip hc hK
      cases hK
      exact mm_vret C (pc := 143) rfl dX12_laysRules_143 rfl rfl
    · replace hK := mm_in hc hK
      refine mm_iconst C (pc := 17) (v := (0 : Int32)) dX12_laysRules_17 (by decide) ?_
      refine mm_istore_n C (pc := 18) (i := 3) (lv' := [(3, .int (0 : Int32)), (0, va_rf l0), (1, .int l1), (2, .int l2)]) dX12_laysRules_18 rfl (by decide) rfl ?_
      refine mm_sub C [1, 2, 3, 0] rfl ?_
      exact w_X12_laysRules_19 hd C (fun z0 z1 z2 z3 hK => ih z0 z1 z2 z3 hK) _ _ _ _ _ _ hK
def F_X12_laysRules (a0 : Option Nat) (a1 : Int32) (h : MH) : Option MH := (pI h a0 12 43 (0 : Int32)).bind fun h2 => F_X12_laysRules_7 mm_N a0 a1 (0 : Int32) h2
set_option maxRecDepth 20000 in
set_option maxHeartbeats 4000000 in
theorem S_X12_laysRules {d : Nat} (hd : 2 ≤ d) {a0 : Option Nat} {a1 : Int32} {h : MH} {hz : MH} (hK : F_X12_laysRules a0 a1 h = some hz) : mm_M yX12_laysRules cX12_laysRules 6 none d [va_rf a0, .int a1] h (.inr none) hz := by
  refine mm_ofV (by decide +kernel) (by simp [lg_sl, mm_crf, mm_cti, mm_ctl]) (fun V C => ?_)
  rw [show lv_args 0 [va_rf a0, .int a1] = [(0, va_rf a0), (1, .int a1)] by simp [lv_args, mm_crf, mm_cti, mm_ctl]]
  unfold F_X12_laysRules at hK
  refine mm_aload_n C (pc := 0) 0 dX12_laysRules_0 rfl ?_
  refine mm_iconst C (pc := 1) (v := (0 : Int32)) dX12_laysRules_1 (by decide) ?_
  replace hK := mm_bd hK; obtain ⟨h2, e2, hK⟩ := hK
  refine mm_puti C (pc := 2) (k := 43) false (fun z => by cases z) inGX12 tyX12 tyX12_ok nmX12 rfl (by decide) wd_2042 rfl rfl dX12_laysRules_2 e2 ?_
  refine mm_iconst C (pc := 5) (v := (0 : Int32)) dX12_laysRules_5 (by decide) ?_
  refine mm_istore_n C (pc := 6) (i := 2) (lv' := [(2, .int (0 : Int32)), (0, va_rf a0), (1, .int a1)]) dX12_laysRules_6 rfl (by decide) rfl ?_
  refine mm_sub C [1, 2, 0] rfl ?_
  exact w_X12_laysRules_7 hd C _ _ _ _ _ hK
theorem wd_2683 : Cond.code yX12_rulesFault cX12_rulesFault 5 (some .int) ∈ lw_good := mm_wd 2683 (by decide +kernel) (by decide +kernel)
theorem tT_X12_rulesFault : mm_T yX12_rulesFault cX12_rulesFault 5 (some .int) 1 := ⟨wd_2683, wd_170, by decide +kernel, by decide +kernel, by decide +kernel, by decide +kernel⟩
theorem wd_2680 : Cond.methodLink RX12 541 yX12_rulesFault ∈ lw_good := mm_wd 2680 (by decide +kernel) (by decide +kernel)
theorem wd_2682 : Cond.instanceMethod yX12_rulesFault ∈ lw_good := mm_wd 2682 (by decide +kernel) (by decide +kernel)
theorem wd_136 : Cond.selects RX12 yX12_rulesFault yX12_rulesFault ∈ lw_good := mm_wd 136 (by decide +kernel) (by decide +kernel)
theorem wd_2688 : Cond.code yX12_laysRules cX12_laysRules 6 none ∈ lw_good := mm_wd 2688 (by decide +kernel) (by decide +kernel)
theorem tT_X12_laysRules : mm_T yX12_laysRules cX12_laysRules 6 none 1 := ⟨wd_2688, wd_170, by decide +kernel, by decide +kernel, by decide +kernel, by decide +kernel⟩
theorem wd_2685 : Cond.methodLink RX12 544 yX12_laysRules ∈ lw_good := mm_wd 2685 (by decide +kernel) (by decide +kernel)
theorem wd_2687 : Cond.instanceMethod yX12_laysRules ∈ lw_good := mm_wd 2687 (by decide +kernel) (by decide +kernel)
theorem wd_137 : Cond.selects RX12 yX12_laysRules yX12_laysRules ∈ lw_good := mm_wd 137 (by decide +kernel) (by decide +kernel)
def F_X12_rules (a0 : Option Nat) (a1 : Int32) (h : MH) : Option (Int32 × MH) := mm_b2 (cV h a0 12 (F_X12_rulesFault a0 a1 h)) fun v3 h3 => (pI h3 a0 12 4 v3).bind fun h6 => (gI h6 a0 12 4).bind fun v10 => if v10 ≤ 0 then ((cV h6 a0 12 (F_X12_laysRules a0 a1 h6)).bind fun h20 => (gI h20 a0 12 43).bind fun v24 => some (v24, h20)) else (some ((0 : Int32), h6))
set_option maxRecDepth 20000 in
set_option maxHeartbeats 4000000 in
theorem S_X12_rules {d : Nat} (hd : 5 ≤ d) {a0 : Option Nat} {a1 : Int32} {h : MH} {r : Int32} {hz : MH} (hK : F_X12_rules a0 a1 h = some (r, hz)) : mm_M yX12_rules cX12_rules 2 (some .int) d [va_rf a0, .int a1] h (.inr (some (.int r))) hz := by
  refine mm_ofV (by decide +kernel) (by simp [lg_sl, mm_crf, mm_cti, mm_ctl]) (fun V C => ?_)
  rw [show lv_args 0 [va_rf a0, .int a1] = [(0, va_rf a0), (1, .int a1)] by simp [lv_args, mm_crf, mm_cti, mm_ctl]]
  unfold F_X12_rules at hK
  refine mm_aload_n C (pc := 0) 0 dX12_rules_0 rfl ?_
  refine mm_aload_n C (pc := 1) 0 dX12_rules_1 rfl ?_
  refine mm_iload_n C (pc := 2) 1 dX12_rules_2 rfl ?_
  replace hK := mm_b2s hK; obtain ⟨v3, h3, e3, hK⟩ := hK
  obtain ⟨o3, e3⟩ := cV_some e3
  refine mm_callV C (pc := 3) (d1 := 4) (As := [.int a1]) (st := [va_rf a0]) (vk := (some (.int v3))) ((S_X12_rulesFault (by omega)) e3) tT_X12_rulesFault o3 (Or.inr ⟨_, rfl, rfl⟩) wd_2680 wd_2682 wd_136 (by omega) (by decide) rfl (by simp [mm_crf, mm_cti, mm_ctl]) rfl dX12_rules_3 ?_
  show V _ _ (.int v3 :: _) _
  replace hK := mm_bd hK; obtain ⟨h6, e6, hK⟩ := hK
  refine mm_puti C (pc := 6) (k := 4) false (fun z => by cases z) inGX12 tyX12 tyX12_ok nmX12 rfl (by decide) wd_2003 rfl rfl dX12_rules_6 e6 ?_
  refine mm_aload_n C (pc := 9) 0 dX12_rules_9 rfl ?_
  replace hK := mm_bd hK; obtain ⟨v10, e10, hK⟩ := hK
  refine mm_geti C (pc := 10) (k := 4) inGX12 rfl (by decide) wd_2003 dX12_rules_10 e10 ?_
  refine mm_if_le C (pc := 13) (tgt := 18) dX12_rules_13 (by decide) (fun hc => ?_) (fun hc => ?_)
  · replace hK := mm_ip hc hK
    refine mm_aload_n C (pc := 18) 0 dX12_rules_18 rfl ?_
    refine mm_iload_n C (pc := 19) 1 dX12_rules_19 rfl ?_
    replace hK := mm_bd hK; obtain ⟨h20, e20, hK⟩ := hK
    obtain ⟨o20, e20⟩ := cV_some e20
    refine mm_callV C (pc := 20) (d1 := 2) (As := [.int a1]) (st := []) (vk := none) ((S_X12_laysRules (by omega)) e20) tT_X12_laysRules o20 (Or.inr ⟨_, rfl, rfl⟩) wd_2685 wd_2687 wd_137 (by omega) (by decide) rfl (by simp [mm_crf, mm_cti, mm_ctl]) rfl dX12_rules_20 ?_
    show V _ _ [] _
    refine mm_aload_n C (pc := 23) 0 dX12_rules_23 rfl ?_
    replace hK := mm_bd hK; obtain ⟨v24, e24, hK⟩ := hK
    refine mm_geti C (pc := 24) (k := 43) inGX12 rfl (by decide) wd_2042 dX12_rules_24 e24 ?_
    cases hK
    exact mm_iret C (pc := 27) rfl dX12_rules_27 rfl rfl
  · replace hK := mm_in hc hK
    refine mm_iconst C (pc := 16) (v := (0 : Int32)) dX12_rules_16 (by decide) ?_
    cases hK
    exact mm_iret C (pc := 17) rfl dX12_rules_17 rfl rfl
def F_X12_rule_57 (s0 : Int32) (h : MH) : Option (Int32 × MH) := some (s0, h)
set_option maxRecDepth 20000 in
set_option maxHeartbeats 4000000 in
theorem w_X12_rule_57 {d : Nat} {V : Nat → List (Nat × Value) → List Value → MH → Prop} {r : Int32} {hz : MH} (hd : 5 ≤ d) (C : mm_C d yX12_rule cX12_rule 3 (some .int) (.inr (some (.int r))) hz V) (s0 : Int32) (h : MH) (hK : F_X12_rule_57 s0 h = some (r, hz)) : V 57 [] [.int s0] h := by
  unfold F_X12_rule_57 at hK
  cases hK
  exact mm_iret C (pc := 57) rfl dX12_rule_57 rfl rfl
def F_X12_rule_25 (l0 : Option Nat) (l1 : Int32) (l2 : Int32) (h : MH) : Option (Int32 × MH) := (gI h l0 12 4).bind fun v26 => if v26 ≤ 0 then ((cV h l0 12 (F_X12_laysRules l0 l1 h)).bind fun h36 => (gI h36 l0 12 43).bind fun v41 => if v41 ≤ l2 then (F_X12_rule_57 ((-1) : Int32) h36) else ((gR h36 l0 12 42).bind fun v48 => (aI h36 v48 0 l2).bind fun v52 => F_X12_rule_57 v52 h36)) else (some ((0 : Int32), h))
set_option maxRecDepth 20000 in
set_option maxHeartbeats 4000000 in
theorem w_X12_rule_25 {d : Nat} {V : Nat → List (Nat × Value) → List Value → MH → Prop} {r : Int32} {hz : MH} (hd : 5 ≤ d) (C : mm_C d yX12_rule cX12_rule 3 (some .int) (.inr (some (.int r))) hz V) (l0 : Option Nat) (l1 : Int32) (l2 : Int32) (h : MH) (hK : F_X12_rule_25 l0 l1 l2 h = some (r, hz)) : V 25 [(0, va_rf l0), (1, .int l1), (2, .int l2)] [] h := by
  unfold F_X12_rule_25 at hK
  refine mm_aload_n C (pc := 25) 0 dX12_rule_25 rfl ?_
  replace hK := mm_bd hK; obtain ⟨v26, e26, hK⟩ := hK
  refine mm_geti C (pc := 26) (k := 4) inGX12 rfl (by decide) wd_2003 dX12_rule_26 e26 ?_
  refine mm_if_le C (pc := 29) (tgt := 34) dX12_rule_29 (by decide) (fun hc => ?_) (fun hc => ?_)
  · replace hK := mm_ip hc hK
    refine mm_aload_n C (pc := 34) 0 dX12_rule_34 rfl ?_
    refine mm_iload_n C (pc := 35) 1 dX12_rule_35 rfl ?_
    replace hK := mm_bd hK; obtain ⟨h36, e36, hK⟩ := hK
    obtain ⟨o36, e36⟩ := cV_some e36
    refine mm_callV C (pc := 36) (d1 := 2) (As := [.int l1]) (st := []) (vk := none) ((S_X12_laysRules (by omega)) e36) tT_X12_laysRules o36 (Or.inr ⟨_, rfl, rfl⟩) wd_2685 wd_2687 wd_137 (by omega) (by decide) rfl (by simp [mm_crf, mm_cti, mm_ctl]) rfl dX12_rule_36 ?_
    show V _ _ [] _
    refine mm_iload_n C (pc := 39) 2 dX12_rule_39 rfl ?_
    refine mm_aload_n C (pc := 40) 0 dX12_rule_40 rfl ?_
    replace hK := mm_bd hK; obtain ⟨v41, e41, hK⟩ := hK
    refine mm_geti C (pc := 41) (k := 43) inGX12 rfl (by decide) wd_2042 dX12_rule_41 e41 ?_
    refine mm_icmp_ge C (pc := 44) (tgt := 56) dX12_rule_44 (by decide) (fun hc => ?_) (fun hc => ?_)
    · replace hK := mm_ip hc hK
      refine mm_iconst C (pc := 56) (v := ((-1) : Int32)) dX12_rule_56 (by decide) ?_
      refine mm_sub C [] rfl ?_
      exact w_X12_rule_57 hd C _ _ hK
    · replace hK := mm_in hc hK
      refine mm_aload_n C (pc := 47) 0 dX12_rule_47 rfl ?_
      replace hK := mm_bd hK; obtain ⟨v48, e48, hK⟩ := hK
      refine mm_getr C (pc := 48) (k := 42) inGX12 rfl (by decide) wd_2041 dX12_rule_48 e48 ?_
      refine mm_iload_n C (pc := 51) 2 dX12_rule_51 rfl ?_
      replace hK := mm_bd hK; obtain ⟨v52, e52, hK⟩ := hK
      refine mm_iald C (pc := 52) dX12_rule_52 e52 ?_
      refine mm_goto C (pc := 53) (tgt := 57) dX12_rule_53 (by decide) ?_
      refine mm_sub C [] rfl ?_
      exact w_X12_rule_57 hd C _ _ hK
  · replace hK := mm_in hc hK
    refine mm_iconst C (pc := 32) (v := (0 : Int32)) dX12_rule_32 (by decide) ?_
    cases hK
    exact mm_iret C (pc := 33) rfl dX12_rule_33 rfl rfl
def F_X12_rule (a0 : Option Nat) (a1 : Int32) (a2 : Int32) (h : MH) : Option (Int32 × MH) := mm_b2 (cV h a0 12 (F_X12_rulesFault a0 a1 h)) fun v3 h3 => (pI h3 a0 12 4 v3).bind fun h6 => (gI h6 a0 12 4).bind fun v10 => if v10 = 0 then (if 0 ≤ a2 then (F_X12_rule_25 a0 a1 a2 h6) else ((pI h6 a0 12 4 (3 : Int32)).bind fun h22 => F_X12_rule_25 a0 a1 a2 h22)) else (F_X12_rule_25 a0 a1 a2 h6)
set_option maxRecDepth 20000 in
set_option maxHeartbeats 4000000 in
theorem S_X12_rule {d : Nat} (hd : 5 ≤ d) {a0 : Option Nat} {a1 : Int32} {a2 : Int32} {h : MH} {r : Int32} {hz : MH} (hK : F_X12_rule a0 a1 a2 h = some (r, hz)) : mm_M yX12_rule cX12_rule 3 (some .int) d [va_rf a0, .int a1, .int a2] h (.inr (some (.int r))) hz := by
  refine mm_ofV (by decide +kernel) (by simp [lg_sl, mm_crf, mm_cti, mm_ctl]) (fun V C => ?_)
  rw [show lv_args 0 [va_rf a0, .int a1, .int a2] = [(0, va_rf a0), (1, .int a1), (2, .int a2)] by simp [lv_args, mm_crf, mm_cti, mm_ctl]]
  unfold F_X12_rule at hK
  refine mm_aload_n C (pc := 0) 0 dX12_rule_0 rfl ?_
  refine mm_aload_n C (pc := 1) 0 dX12_rule_1 rfl ?_
  refine mm_iload_n C (pc := 2) 1 dX12_rule_2 rfl ?_
  replace hK := mm_b2s hK; obtain ⟨v3, h3, e3, hK⟩ := hK
  obtain ⟨o3, e3⟩ := cV_some e3
  refine mm_callV C (pc := 3) (d1 := 4) (As := [.int a1]) (st := [va_rf a0]) (vk := (some (.int v3))) ((S_X12_rulesFault (by omega)) e3) tT_X12_rulesFault o3 (Or.inr ⟨_, rfl, rfl⟩) wd_2680 wd_2682 wd_136 (by omega) (by decide) rfl (by simp [mm_crf, mm_cti, mm_ctl]) rfl dX12_rule_3 ?_
  show V _ _ (.int v3 :: _) _
  replace hK := mm_bd hK; obtain ⟨h6, e6, hK⟩ := hK
  refine mm_puti C (pc := 6) (k := 4) false (fun z => by cases z) inGX12 tyX12 tyX12_ok nmX12 rfl (by decide) wd_2003 rfl rfl dX12_rule_6 e6 ?_
  refine mm_aload_n C (pc := 9) 0 dX12_rule_9 rfl ?_
  replace hK := mm_bd hK; obtain ⟨v10, e10, hK⟩ := hK
  refine mm_geti C (pc := 10) (k := 4) inGX12 rfl (by decide) wd_2003 dX12_rule_10 e10 ?_
  refine mm_if_ne C (pc := 13) (tgt := 25) dX12_rule_13 (by decide) (fun hc => ?_) (fun hc => ?_)
  · replace hK := mm_in hc hK
    exact w_X12_rule_25 hd C _ _ _ _ hK
  · replace hK := mm_ip hc hK
    refine mm_iload_n C (pc := 16) 2 dX12_rule_16 rfl ?_
    refine mm_if_ge C (pc := 17) (tgt := 25) dX12_rule_17 (by decide) (fun hc => ?_) (fun hc => ?_)
    · replace hK := mm_ip hc hK
      exact w_X12_rule_25 hd C _ _ _ _ hK
    · replace hK := mm_in hc hK
      refine mm_aload_n C (pc := 20) 0 dX12_rule_20 rfl ?_
      refine mm_iconst C (pc := 21) (v := (3 : Int32)) dX12_rule_21 (by decide) ?_
      replace hK := mm_bd hK; obtain ⟨h22, e22, hK⟩ := hK
      refine mm_puti C (pc := 22) (k := 4) false (fun z => by cases z) inGX12 tyX12 tyX12_ok nmX12 rfl (by decide) wd_2003 rfl rfl dX12_rule_22 e22 ?_
      exact w_X12_rule_25 hd C _ _ _ _ hK
theorem wd_2705 : Cond.methodLink RX12 547 yJ9_max_7cf53 ∈ lw_good := mm_wd 2705 (by decide +kernel) (by decide +kernel)
def F_X12_mostAlike_25 : Nat → Option Nat → Int32 → Int32 → Int32 → MH → Option (Int32 × MH)
  | 0 => fun _ _ _ _ _ => none
  | n + 1 => fun l0 l1 l2 l3 h => (gI h l0 12 43).bind fun v27 => if v27 ≤ l3 then (some (l2, h)) else ((gR h l0 12 42).bind fun v35 => (aI h v35 0 l3).bind fun v39 => (gR h l0 12 42).bind fun v44 => (aI h v44 0 l3).bind fun v48 => (gR h l0 12 0).bind fun v53 => (aI h v53 0 ((51 : Int32) + l1)).bind fun v60 => (gR h l0 12 0).bind fun v62 => (aI h v62 0 ((61 : Int32) + l1)).bind fun v69 => mm_b2 (cV h l0 12 (F_X12_ruled l0 (v39 / (10 : Int32)) (v48 - v48 / (10 : Int32) * (10 : Int32)) v60 v69 h)) fun v70 h70 => (gR h70 l0 12 44).bind fun v76 => (aI h70 v76 0 v70).bind fun v82 => (sI h70 v76 0 v70 (v82 + (1 : Int32))).bind fun h85 => (gR h85 l0 12 44).bind fun v88 => (aI h85 v88 0 v70).bind fun v93 => F_X12_mostAlike_25 n l0 l1 (mxI l2 v93) (l3 + (1 : Int32)) h85)
set_option maxRecDepth 20000 in
set_option maxHeartbeats 4000000 in
theorem w_X12_mostAlike_25 {d : Nat} {V : Nat → List (Nat × Value) → List Value → MH → Prop} {r : Int32} {hz : MH} (hd : 2 ≤ d) (C : mm_C d yX12_mostAlike cX12_mostAlike 5 (some .int) (.inr (some (.int r))) hz V) : ∀ (n : Nat) (l0 : Option Nat) (l1 : Int32) (l2 : Int32) (l3 : Int32) (h : MH), F_X12_mostAlike_25 n l0 l1 l2 l3 h = some (r, hz) → V 25 [(0, va_rf l0), (1, .int l1), (2, .int l2), (3, .int l3)] [] h := by
  intro n
  induction n with
  | zero => intro l0 l1 l2 l3 h hK; cases hK
  | succ n ih =>
    intro l0 l1 l2 l3 h hK
    replace hK : ((gI h l0 12 43).bind fun v27 => if v27 ≤ l3 then (some (l2, h)) else ((gR h l0 12 42).bind fun v35 => (aI h v35 0 l3).bind fun v39 => (gR h l0 12 42).bind fun v44 => (aI h v44 0 l3).bind fun v48 => (gR h l0 12 0).bind fun v53 => (aI h v53 0 ((51 : Int32) + l1)).bind fun v60 => (gR h l0 12 0).bind fun v62 => (aI h v62 0 ((61 : Int32) + l1)).bind fun v69 => mm_b2 (cV h l0 12 (F_X12_ruled l0 (v39 / (10 : Int32)) (v48 - v48 / (10 : Int32) * (10 : Int32)) v60 v69 h)) fun v70 h70 => (gR h70 l0 12 44).bind fun v76 => (aI h70 v76 0 v70).bind fun v82 => (sI h70 v76 0 v70 (v82 + (1 : Int32))).bind fun h85 => (gR h85 l0 12 44).bind fun v88 => (aI h85 v88 0 v70).bind fun v93 => F_X12_mostAlike_25 n l0 l1 (mxI l2 v93) (l3 + (1 : Int32)) h85)) = some (r, hz) := hK
    refine mm_iload_n C (pc := 25) 3 dX12_mostAlike_25 rfl ?_
    refine mm_aload_n C (pc := 26) 0 dX12_mostAlike_26 rfl ?_
    replace hK := mm_bd hK; obtain ⟨v27, e27, hK⟩ := hK
    refine mm_geti C (pc := 27) (k := 43) inGX12 rfl (by decide) wd_2042 dX12_mostAlike_27 e27 ?_
    refine mm_icmp_ge C (pc := 30) (tgt := 104) dX12_mostAlike_30 (by decide) (fun hc => ?_) (fun hc => ?_)
    · replace hK := mm_ip hc hK
      refine mm_iload_n C (pc := 104) 2 dX12_mostAlike_104 rfl ?_
      cases hK
      exact mm_iret C (pc := 105) rfl dX12_mostAlike_105 rfl rfl
    · replace hK := mm_in hc hK
      refine mm_aload_n C (pc := 33) 0 dX12_mostAlike_33 rfl ?_
      refine mm_aload_n C (pc := 34) 0 dX12_mostAlike_34 rfl ?_
      replace hK := mm_bd hK; obtain ⟨v35, e35, hK⟩ := hK
      refine mm_getr C (pc := 35) (k := 42) inGX12 rfl (by decide) wd_2041 dX12_mostAlike_35 e35 ?_
      refine mm_iload_n C (pc := 38) 3 dX12_mostAlike_38 rfl ?_
      replace hK := mm_bd hK; obtain ⟨v39, e39, hK⟩ := hK
      refine mm_iald C (pc := 39) dX12_mostAlike_39 e39 ?_
      refine mm_bipush C (pc := 40) (v := (10 : Int32)) dX12_mostAlike_40 (by decide) ?_
      refine mm_idiv C (pc := 42) dX12_mostAlike_42 (by decide) ?_
      refine mm_aload_n C (pc := 43) 0 dX12_mostAlike_43 rfl ?_
      replace hK := mm_bd hK; obtain ⟨v44, e44, hK⟩ := hK
      refine mm_getr C (pc := 44) (k := 42) inGX12 rfl (by decide) wd_2041 dX12_mostAlike_44 e44 ?_
      refine mm_iload_n C (pc := 47) 3 dX12_mostAlike_47 rfl ?_
      replace hK := mm_bd hK; obtain ⟨v48, e48, hK⟩ := hK
      refine mm_iald C (pc := 48) dX12_mostAlike_48 e48 ?_
      refine mm_bipush C (pc := 49) (v := (10 : Int32)) dX12_mostAlike_49 (by decide) ?_
      refine mm_irem C (pc := 51) dX12_mostAlike_51 (by decide) ?_
      refine mm_aload_n C (pc := 52) 0 dX12_mostAlike_52 rfl ?_
      replace hK := mm_bd hK; obtain ⟨v53, e53, hK⟩ := hK
      refine mm_getr C (pc := 53) (k := 0) inGX12 rfl (by decide) wd_1999 dX12_mostAlike_53 e53 ?_
      refine mm_bipush C (pc := 56) (v := (51 : Int32)) dX12_mostAlike_56 (by decide) ?_
      refine mm_iload_n C (pc := 58) 1 dX12_mostAlike_58 rfl ?_
      refine mm_iadd C (pc := 59) dX12_mostAlike_59 ?_
      replace hK := mm_bd hK; obtain ⟨v60, e60, hK⟩ := hK
      refine mm_iald C (pc := 60) dX12_mostAlike_60 e60 ?_
      refine mm_aload_n C (pc := 61) 0 dX12_mostAlike_61 rfl ?_
      replace hK := mm_bd hK; obtain ⟨v62, e62, hK⟩ := hK
      refine mm_getr C (pc := 62) (k := 0) inGX12 rfl (by decide) wd_1999 dX12_mostAlike_62 e62 ?_
      refine mm_bipush C (pc := 65) (v := (61 : Int32)) dX12_mostAlike_65 (by decide) ?_
      refine mm_iload_n C (pc := 67) 1 dX12_mostAlike_67 rfl ?_
      refine mm_iadd C (pc := 68) dX12_mostAlike_68 ?_
      replace hK := mm_bd hK; obtain ⟨v69, e69, hK⟩ := hK
      refine mm_iald C (pc := 69) dX12_mostAlike_69 e69 ?_
      replace hK := mm_b2s hK; obtain ⟨v70, h70, e70, hK⟩ := hK
      obtain ⟨o70, e70⟩ := cV_some e70
      refine mm_callV C (pc := 70) (d1 := 1) (As := [.int (v39 / (10 : Int32)), .int (v48 - v48 / (10 : Int32) * (10 : Int32)), .int v60, .int v69]) (st := []) (vk := (some (.int v70))) ((S_X12_ruled (by omega)) e70) tT_X12_ruled o70 (Or.inr ⟨_, rfl, rfl⟩) wd_2689 wd_2691 wd_138 (by omega) (by decide) rfl (by simp [mm_crf, mm_cti, mm_ctl]) rfl dX12_mostAlike_70 ?_
      show V _ _ (.int v70 :: _) _
      refine mm_istore C (pc := 73) (i := 4) (lv' := [(4, .int v70), (0, va_rf l0), (1, .int l1), (2, .int l2), (3, .int l3)]) dX12_mostAlike_73 (by decide) rfl ?_
      refine mm_aload_n C (pc := 75) 1 dX12_mostAlike_75 rfl ?_
      replace hK := mm_bd hK; obtain ⟨v76, e76, hK⟩ := hK
      refine mm_getr C (pc := 76) (k := 44) inGX12 rfl (by decide) wd_2043 dX12_mostAlike_76 e76 ?_
      refine mm_iload C (pc := 79) 0 dX12_mostAlike_79 rfl ?_
      refine mm_dup2 C (pc := 81) dX12_mostAlike_81 rfl mm_crf ?_
      replace hK := mm_bd hK; obtain ⟨v82, e82, hK⟩ := hK
      refine mm_iald C (pc := 82) dX12_mostAlike_82 e82 ?_
      refine mm_iconst C (pc := 83) (v := (1 : Int32)) dX12_mostAlike_83 (by decide) ?_
      refine mm_iadd C (pc := 84) dX12_mostAlike_84 ?_
      replace hK := mm_bd hK; obtain ⟨h85, e85, hK⟩ := hK
      refine mm_iast C (pc := 85) dX12_mostAlike_85 e85 ?_
      refine mm_iload_n C (pc := 86) 3 dX12_mostAlike_86 rfl ?_
      refine mm_aload_n C (pc := 87) 1 dX12_mostAlike_87 rfl ?_
      replace hK := mm_bd hK; obtain ⟨v88, e88, hK⟩ := hK
      refine mm_getr C (pc := 88) (k := 44) inGX12 rfl (by decide) wd_2043 dX12_mostAlike_88 e88 ?_
      refine mm_iload C (pc := 91) 0 dX12_mostAlike_91 rfl ?_
      replace hK := mm_bd hK; obtain ⟨v93, e93, hK⟩ := hK
      refine mm_iald C (pc := 93) dX12_mostAlike_93 e93 ?_
      refine mm_mmax C (pc := 94) wd_2705 wd_412 wd_152 wd_413 (by omega) (by simp [mm_crf, mm_cti, mm_ctl]) dX12_mostAlike_94 ?_
      refine mm_istore_n C (pc := 97) (i := 2) (lv' := [(2, .int (mxI l2 v93)), (4, .int v70), (0, va_rf l0), (1, .int l1), (3, .int l3)]) dX12_mostAlike_97 rfl (by decide) rfl ?_
      refine mm_iinc C (pc := 98) (v := (l3 + (1 : Int32))) (lv' := [(3, .int (l3 + (1 : Int32))), (2, .int (mxI l2 v93)), (4, .int v70), (0, va_rf l0), (1, .int l1)]) 4 dX12_mostAlike_98 rfl rfl (by decide) rfl ?_
      refine mm_goto C (pc := 101) (tgt := 25) dX12_mostAlike_101 (by decide) ?_
      refine mm_sub C [3, 4, 1, 0] rfl ?_
      exact ih _ _ _ _ _ hK
def F_X12_mostAlike_4 : Nat → Option Nat → Int32 → Int32 → Int32 → MH → Option (Int32 × MH)
  | 0 => fun _ _ _ _ _ => none
  | n + 1 => fun l0 l1 l2 l3 h => if (8 : Int32) ≤ l3 then (F_X12_mostAlike_25 mm_N l0 l1 l2 (0 : Int32) h) else ((gR h l0 12 44).bind fun v11 => (sI h v11 0 l3 (0 : Int32)).bind fun h16 => F_X12_mostAlike_4 n l0 l1 l2 (l3 + (1 : Int32)) h16)
set_option maxRecDepth 20000 in
set_option maxHeartbeats 4000000 in
theorem w_X12_mostAlike_4 {d : Nat} {V : Nat → List (Nat × Value) → List Value → MH → Prop} {r : Int32} {hz : MH} (hd : 2 ≤ d) (C : mm_C d yX12_mostAlike cX12_mostAlike 5 (some .int) (.inr (some (.int r))) hz V) : ∀ (n : Nat) (l0 : Option Nat) (l1 : Int32) (l2 : Int32) (l3 : Int32) (h : MH), F_X12_mostAlike_4 n l0 l1 l2 l3 h = some (r, hz) → V 4 [(0, va_rf l0), (1, .int l1), (2, .int l2), (3, .int l3)] [] h := by
  intro n
  induction n with
  | zero => intro l0 l1 l2 l3 h hK; cases hK
  | succ n ih =>
    intro l0 l1 l2 l3 h hK
    replace hK : (if (8 : Int32) ≤ l3 then (F_X12_mostAlike_25 mm_N l0 l1 l2 (0 : Int32) h) else ((gR h l0 12 44).bind fun v11 => (sI h v11 0 l3 (0 : Int32)).bind fun h16 => F_X12_mostAlike_4 n l0 l1 l2 (l3 + (1 : Int32)) h16)) = some (r, hz) := hK
    refine mm_iload_n C (pc := 4) 3 dX12_mostAlike_4 rfl ?_
    refine mm_bipush C (pc := 5) (v := (8 : Int32)) dX12_mostAlike_5 (by decide) ?_
    refine mm_icmp_ge C (pc := 7) (tgt := 23) dX12_mostAlike_7 (by decide) (fun hc => ?_) (fun hc => ?_)
    · replace hK := mm_ip hc hK
      refine mm_iconst C (pc := 23) (v := (0 : Int32)) dX12_mostAlike_23 (by decide) ?_
      refine mm_istore_n C (pc := 24) (i := 3) (lv' := [(3, .int (0 : Int32)), (0, va_rf l0), (1, .int l1), (2, .int l2)]) dX12_mostAlike_24 rfl (by decide) rfl ?_
      refine mm_sub C [1, 2, 3, 0] rfl ?_
      exact w_X12_mostAlike_25 hd C _ _ _ _ _ _ hK
    · replace hK := mm_in hc hK
      refine mm_aload_n C (pc := 10) 0 dX12_mostAlike_10 rfl ?_
      replace hK := mm_bd hK; obtain ⟨v11, e11, hK⟩ := hK
      refine mm_getr C (pc := 11) (k := 44) inGX12 rfl (by decide) wd_2043 dX12_mostAlike_11 e11 ?_
      refine mm_iload_n C (pc := 14) 3 dX12_mostAlike_14 rfl ?_
      refine mm_iconst C (pc := 15) (v := (0 : Int32)) dX12_mostAlike_15 (by decide) ?_
      replace hK := mm_bd hK; obtain ⟨h16, e16, hK⟩ := hK
      refine mm_iast C (pc := 16) dX12_mostAlike_16 e16 ?_
      refine mm_iinc C (pc := 17) (v := (l3 + (1 : Int32))) (lv' := [(3, .int (l3 + (1 : Int32))), (0, va_rf l0), (1, .int l1), (2, .int l2)]) 3 dX12_mostAlike_17 rfl rfl (by decide) rfl ?_
      refine mm_goto C (pc := 20) (tgt := 4) dX12_mostAlike_20 (by decide) ?_
      refine mm_sub C [1, 2, 3, 0] rfl ?_
      exact ih _ _ _ _ _ hK
def F_X12_mostAlike (a0 : Option Nat) (a1 : Int32) (h : MH) : Option (Int32 × MH) := F_X12_mostAlike_4 mm_N a0 a1 (0 : Int32) (0 : Int32) h
set_option maxRecDepth 20000 in
set_option maxHeartbeats 4000000 in
theorem S_X12_mostAlike {d : Nat} (hd : 2 ≤ d) {a0 : Option Nat} {a1 : Int32} {h : MH} {r : Int32} {hz : MH} (hK : F_X12_mostAlike a0 a1 h = some (r, hz)) : mm_M yX12_mostAlike cX12_mostAlike 5 (some .int) d [va_rf a0, .int a1] h (.inr (some (.int r))) hz := by
  refine mm_ofV (by decide +kernel) (by simp [lg_sl, mm_crf, mm_cti, mm_ctl]) (fun V C => ?_)
  rw [show lv_args 0 [va_rf a0, .int a1] = [(0, va_rf a0), (1, .int a1)] by simp [lv_args, mm_crf, mm_cti, mm_ctl]]
  unfold F_X12_mostAlike at hK
  refine mm_iconst C (pc := 0) (v := (0 : Int32)) dX12_mostAlike_0 (by decide) ?_
  refine mm_istore_n C (pc := 1) (i := 2) (lv' := [(2, .int (0 : Int32)), (0, va_rf a0), (1, .int a1)]) dX12_mostAlike_1 rfl (by decide) rfl ?_
  refine mm_iconst C (pc := 2) (v := (0 : Int32)) dX12_mostAlike_2 (by decide) ?_
  refine mm_istore_n C (pc := 3) (i := 3) (lv' := [(3, .int (0 : Int32)), (2, .int (0 : Int32)), (0, va_rf a0), (1, .int a1)]) dX12_mostAlike_3 rfl (by decide) rfl ?_
  refine mm_sub C [2, 3, 1, 0] rfl ?_
  exact w_X12_mostAlike_4 hd C _ _ _ _ _ _ hK
