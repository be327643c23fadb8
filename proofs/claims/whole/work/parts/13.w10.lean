def F_X12_door_50 (s0 : Int32) (h : MH) : Option (Int32 × MH) := some (s0, h)
set_option maxRecDepth 20000 in
set_option maxHeartbeats 4000000 in
theorem w_X12_door_50 {d : Nat} {V : Nat → List (Nat × Value) → List Value → MH → Prop} {r : Int32} {hz : MH} (hd : 3 ≤ d) (C : mm_C d yX12_door cX12_door 2 (some .int) (.inr (some (.int r))) hz V) (s0 : Int32) (h : MH) (hK : F_X12_door_50 s0 h = some (r, hz)) : V 50 [] [.int s0] h := by
  unfold F_X12_door_50 at hK
  cases hK
  exact mm_iret C (pc := 50) rfl dX12_door_50 rfl rfl
def F_X12_door (a0 : Option Nat) (a1 : Int32) (h : MH) : Option (Int32 × MH) := (pI h a0 12 4 (0 : Int32)).bind fun h2 => mm_b2 (cV h2 a0 12 (F_X12_isLine a0 (a1.toInt64) h2)) fun v8 h8 => if v8 = 0 then (mm_b2 (cV h8 a0 12 (F_X12_fails a0 (1 : Int32) h8)) fun v16 h16 => some (v16, h16)) else ((cV h8 a0 12 (F_X12_keeps a0 h8)).bind fun h21 => (gR h21 a0 12 0).bind fun v25 => (aI h21 v25 0 (46 : Int32)).bind fun v31 => (sI h21 v25 0 (46 : Int32) (v31 ^^^ ((1 : Int32) <<< (a1 &&& 31)))).bind fun h36 => mm_b2 (cV h36 a0 12 (F_X12_isShut a0 a1 h36)) fun v39 h39 => if v39 = 0 then (F_X12_door_50 (0 : Int32) h39) else (F_X12_door_50 (1 : Int32) h39))
set_option maxRecDepth 20000 in
set_option maxHeartbeats 4000000 in
theorem S_X12_door {d : Nat} (hd : 3 ≤ d) {a0 : Option Nat} {a1 : Int32} {h : MH} {r : Int32} {hz : MH} (hK : F_X12_door a0 a1 h = some (r, hz)) : mm_M yX12_door cX12_door 2 (some .int) d [va_rf a0, .int a1] h (.inr (some (.int r))) hz := by
  refine mm_ofV (by decide +kernel) (by simp [lg_sl, mm_crf, mm_cti, mm_ctl]) (fun V C => ?_)
  rw [show lv_args 0 [va_rf a0, .int a1] = [(0, va_rf a0), (1, .int a1)] by simp [lv_args, mm_crf, mm_cti, mm_ctl]]
  unfold F_X12_door at hK
  refine mm_aload_n C (pc := 0) 0 dX12_door_0 rfl ?_
  refine mm_iconst C (pc := 1) (v := (0 : Int32)) dX12_door_1 (by decide) ?_
  replace hK := mm_bd hK; obtain ⟨h2, e2, hK⟩ := hK
  refine mm_puti C (pc := 2) (k := 4) false (fun z => by cases z) inGX12 tyX12 tyX12_ok nmX12 rfl (by decide) wd_2003 rfl rfl dX12_door_2 e2 ?_
  refine mm_aload_n C (pc := 5) 0 dX12_door_5 rfl ?_
  refine mm_iload_n C (pc := 6) 1 dX12_door_6 rfl ?_
  refine mm_i2l C (pc := 7) dX12_door_7 ?_
  replace hK := mm_b2s hK; obtain ⟨v8, h8, e8, hK⟩ := hK
  obtain ⟨o8, e8⟩ := cV_some e8
  refine mm_callV C (pc := 8) (d1 := 2) (As := [.long (a1.toInt64)]) (st := []) (vk := (some (.int v8))) ((S_X12_isLine (by omega)) e8) tT_X12_isLine o8 (Or.inr ⟨_, rfl, rfl⟩) wd_2307 wd_2309 wd_88 (by omega) (by decide) rfl (by simp [mm_crf, mm_cti, mm_ctl]) rfl dX12_door_8 ?_
  show V _ _ (.int v8 :: _) _
  refine mm_if_ne C (pc := 11) (tgt := 20) dX12_door_11 (by decide) (fun hc => ?_) (fun hc => ?_)
  · replace hK := mm_in hc hK
    refine mm_aload_n C (pc := 20) 0 dX12_door_20 rfl ?_
    replace hK := mm_bd hK; obtain ⟨h21, e21, hK⟩ := hK
    obtain ⟨o21, e21⟩ := cV_some e21
    refine mm_callV C (pc := 21) (d1 := 1) (As := []) (st := []) (vk := none) ((S_X12_keeps (by omega)) e21) tT_X12_keeps o21 (Or.inr ⟨_, rfl, rfl⟩) wd_2388 wd_2390 wd_98 (by omega) (by decide) rfl (by simp [mm_crf, mm_cti, mm_ctl]) rfl dX12_door_21 ?_
    show V _ _ [] _
    refine mm_aload_n C (pc := 24) 0 dX12_door_24 rfl ?_
    replace hK := mm_bd hK; obtain ⟨v25, e25, hK⟩ := hK
    refine mm_getr C (pc := 25) (k := 0) inGX12 rfl (by decide) wd_1999 dX12_door_25 e25 ?_
    refine mm_bipush C (pc := 28) (v := (46 : Int32)) dX12_door_28 (by decide) ?_
    refine mm_dup2 C (pc := 30) dX12_door_30 rfl mm_crf ?_
    replace hK := mm_bd hK; obtain ⟨v31, e31, hK⟩ := hK
    refine mm_iald C (pc := 31) dX12_door_31 e31 ?_
    refine mm_iconst C (pc := 32) (v := (1 : Int32)) dX12_door_32 (by decide) ?_
    refine mm_iload_n C (pc := 33) 1 dX12_door_33 rfl ?_
    refine mm_ishl C (pc := 34) dX12_door_34 ?_
    refine mm_ixor C (pc := 35) dX12_door_35 ?_
    replace hK := mm_bd hK; obtain ⟨h36, e36, hK⟩ := hK
    refine mm_iast C (pc := 36) dX12_door_36 e36 ?_
    refine mm_aload_n C (pc := 37) 0 dX12_door_37 rfl ?_
    refine mm_iload_n C (pc := 38) 1 dX12_door_38 rfl ?_
    replace hK := mm_b2s hK; obtain ⟨v39, h39, e39, hK⟩ := hK
    obtain ⟨o39, e39⟩ := cV_some e39
    refine mm_callV C (pc := 39) (d1 := 2) (As := [.int a1]) (st := []) (vk := (some (.int v39))) ((S_X12_isShut (by omega)) e39) tT_X12_isShut o39 (Or.inr ⟨_, rfl, rfl⟩) wd_2312 wd_2314 wd_89 (by omega) (by decide) rfl (by simp [mm_crf, mm_cti, mm_ctl]) rfl dX12_door_39 ?_
    show V _ _ (.int v39 :: _) _
    refine mm_if_eq C (pc := 42) (tgt := 49) dX12_door_42 (by decide) (fun hc => ?_) (fun hc => ?_)
    · replace hK := mm_ip hc hK
      refine mm_iconst C (pc := 49) (v := (0 : Int32)) dX12_door_49 (by decide) ?_
      refine mm_sub C [] rfl ?_
      exact w_X12_door_50 hd C _ _ hK
    · replace hK := mm_in hc hK
      refine mm_iconst C (pc := 45) (v := (1 : Int32)) dX12_door_45 (by decide) ?_
      refine mm_goto C (pc := 46) (tgt := 50) dX12_door_46 (by decide) ?_
      refine mm_sub C [] rfl ?_
      exact w_X12_door_50 hd C _ _ hK
  · replace hK := mm_ip hc hK
    refine mm_aload_n C (pc := 14) 0 dX12_door_14 rfl ?_
    refine mm_iconst C (pc := 15) (v := (1 : Int32)) dX12_door_15 (by decide) ?_
    replace hK := mm_b2s hK; obtain ⟨v16, h16, e16, hK⟩ := hK
    obtain ⟨o16, e16⟩ := cV_some e16
    refine mm_callV C (pc := 16) (d1 := 1) (As := [.int (1 : Int32)]) (st := []) (vk := (some (.int v16))) ((S_X12_fails (by omega)) e16) tT_X12_fails o16 (Or.inr ⟨_, rfl, rfl⟩) wd_2160 wd_2162 wd_61 (by omega) (by decide) rfl (by simp [mm_crf, mm_cti, mm_ctl]) rfl dX12_door_16 ?_
    show V _ _ (.int v16 :: _) _
    cases hK
    exact mm_iret C (pc := 19) rfl dX12_door_19 rfl rfl
theorem wd_2411 : Cond.code yX12_minute cX12_minute 2 none ∈ lw_good := mm_wd 2411 (by decide +kernel) (by decide +kernel)
theorem tT_X12_minute : mm_T yX12_minute cX12_minute 2 none 0 := ⟨wd_2411, wd_170, by decide +kernel, by decide +kernel, by decide +kernel, by decide +kernel⟩
theorem wd_2408 : Cond.methodLink RX12 353 yX12_minute ∈ lw_good := mm_wd 2408 (by decide +kernel) (by decide +kernel)
theorem wd_2410 : Cond.instanceMethod yX12_minute ∈ lw_good := mm_wd 2410 (by decide +kernel) (by decide +kernel)
theorem wd_100 : Cond.selects RX12 yX12_minute yX12_minute ∈ lw_good := mm_wd 100 (by decide +kernel) (by decide +kernel)
theorem wd_2426 : Cond.code yX12_size cX12_size 3 (some .int) ∈ lw_good := mm_wd 2426 (by decide +kernel) (by decide +kernel)
theorem tT_X12_size : mm_T yX12_size cX12_size 3 (some .int) 1 := ⟨wd_2426, wd_170, by decide +kernel, by decide +kernel, by decide +kernel, by decide +kernel⟩
theorem wd_2424 : Cond.methodLink RX12 355 yX12_size ∈ lw_good := mm_wd 2424 (by decide +kernel) (by decide +kernel)
theorem wd_2425 : Cond.static yX12_size ∈ lw_good := mm_wd 2425 (by decide +kernel) (by decide +kernel)
def F_X12_minutes_31 : Nat → Option Nat → Int32 → Int32 → Int32 → MH → Option (Int32 × MH)
  | 0 => fun _ _ _ _ _ => none
  | n + 1 => fun l0 l1 l2 l3 h => if l1 ≤ l3 then (some (l2, h)) else ((cV h l0 12 (F_X12_minute l0 h)).bind fun h37 => (gI h37 l0 12 22).bind fun v42 => mm_b2 (F_X12_size v42 h37) fun v45 h45 => F_X12_minutes_31 n l0 l1 (l2 + v45) (l3 + (1 : Int32)) h45)
set_option maxRecDepth 20000 in
set_option maxHeartbeats 4000000 in
theorem w_X12_minutes_31 {d : Nat} {V : Nat → List (Nat × Value) → List Value → MH → Prop} {r : Int32} {hz : MH} (hd : 8 ≤ d) (C : mm_C d yX12_minutes cX12_minutes 4 (some .int) (.inr (some (.int r))) hz V) : ∀ (n : Nat) (l0 : Option Nat) (l1 : Int32) (l2 : Int32) (l3 : Int32) (h : MH), F_X12_minutes_31 n l0 l1 l2 l3 h = some (r, hz) → V 31 [(0, va_rf l0), (1, .int l1), (2, .int l2), (3, .int l3)] [] h := by
  intro n
  induction n with
  | zero => intro l0 l1 l2 l3 h hK; cases hK
  | succ n ih =>
    intro l0 l1 l2 l3 h hK
    replace hK : (if l1 ≤ l3 then (some (l2, h)) else ((cV h l0 12 (F_X12_minute l0 h)).bind fun h37 => (gI h37 l0 12 22).bind fun v42 => mm_b2 (F_X12_size v42 h37) fun v45 h45 => F_X12_minutes_31 n l0 l1 (l2 + v45) (l3 + (1 : Int32)) h45)) = some (r, hz) := hK
    refine mm_iload_n C (pc := 31) 3 dX12_minutes_31 rfl ?_
    refine mm_iload_n C (pc := 32) 1 dX12_minutes_32 rfl ?_
    refine mm_icmp_ge C (pc := 33) (tgt := 56) dX12_minutes_33 (by decide) (fun hc => ?_) (fun hc => ?_)
    · replace hK := mm_ip hc hK
      refine mm_iload_n C (pc := 56) 2 dX12_minutes_56 rfl ?_
      cases hK
      exact mm_iret C (pc := 57) rfl dX12_minutes_57 rfl rfl
    · replace hK := mm_in hc hK
      refine mm_aload_n C (pc := 36) 0 dX12_minutes_36 rfl ?_
      replace hK := mm_bd hK; obtain ⟨h37, e37, hK⟩ := hK
      obtain ⟨o37, e37⟩ := cV_some e37
      refine mm_callV C (pc := 37) (d1 := 7) (As := []) (st := []) (vk := none) ((S_X12_minute (by omega)) e37) tT_X12_minute o37 (Or.inr ⟨_, rfl, rfl⟩) wd_2408 wd_2410 wd_100 (by omega) (by decide) rfl (by simp [mm_crf, mm_cti, mm_ctl]) rfl dX12_minutes_37 ?_
      show V _ _ [] _
      refine mm_iload_n C (pc := 40) 2 dX12_minutes_40 rfl ?_
      refine mm_aload_n C (pc := 41) 0 dX12_minutes_41 rfl ?_
      replace hK := mm_bd hK; obtain ⟨v42, e42, hK⟩ := hK
      refine mm_geti C (pc := 42) (k := 22) inGX12 rfl (by decide) wd_2021 dX12_minutes_42 e42 ?_
      replace hK := mm_b2s hK; obtain ⟨v45, h45, e45, hK⟩ := hK
      refine mm_callS C (pc := 45) (d1 := 1) (As := [.int v42]) (st := [.int l2]) (vk := (some (.int v45))) ((S_X12_size (by omega)) e45) tT_X12_size wd_2424 wd_2425 (by omega) (by decide) rfl (by simp [mm_crf, mm_cti, mm_ctl]) rfl dX12_minutes_45 ?_
      show V _ _ (.int v45 :: _) _
      refine mm_iadd C (pc := 48) dX12_minutes_48 ?_
      refine mm_istore_n C (pc := 49) (i := 2) (lv' := [(2, .int (l2 + v45)), (0, va_rf l0), (1, .int l1), (3, .int l3)]) dX12_minutes_49 rfl (by decide) rfl ?_
      refine mm_iinc C (pc := 50) (v := (l3 + (1 : Int32))) (lv' := [(3, .int (l3 + (1 : Int32))), (2, .int (l2 + v45)), (0, va_rf l0), (1, .int l1)]) 3 dX12_minutes_50 rfl rfl (by decide) rfl ?_
      refine mm_goto C (pc := 53) (tgt := 31) dX12_minutes_53 (by decide) ?_
      refine mm_sub C [2, 3, 1, 0] rfl ?_
      exact ih _ _ _ _ _ hK
def F_X12_minutes (a0 : Option Nat) (a1 : Int32) (h : MH) : Option (Int32 × MH) := (pI h a0 12 4 (0 : Int32)).bind fun h2 => mm_b2 (F_X12_within (a1.toInt64) (1 : Int64) (99 : Int64) h2) fun v11 h11 => if v11 = 0 then (mm_b2 (cV h11 a0 12 (F_X12_fails a0 (1 : Int32) h11)) fun v19 h19 => some (v19, h19)) else ((cV h11 a0 12 (F_X12_keeps a0 h11)).bind fun h24 => F_X12_minutes_31 mm_N a0 a1 (0 : Int32) (0 : Int32) h24)
set_option maxRecDepth 20000 in
set_option maxHeartbeats 4000000 in
theorem S_X12_minutes {d : Nat} (hd : 8 ≤ d) {a0 : Option Nat} {a1 : Int32} {h : MH} {r : Int32} {hz : MH} (hK : F_X12_minutes a0 a1 h = some (r, hz)) : mm_M yX12_minutes cX12_minutes 4 (some .int) d [va_rf a0, .int a1] h (.inr (some (.int r))) hz := by
  refine mm_ofV (by decide +kernel) (by simp [lg_sl, mm_crf, mm_cti, mm_ctl]) (fun V C => ?_)
  rw [show lv_args 0 [va_rf a0, .int a1] = [(0, va_rf a0), (1, .int a1)] by simp [lv_args, mm_crf, mm_cti, mm_ctl]]
  unfold F_X12_minutes at hK
  refine mm_aload_n C (pc := 0) 0 dX12_minutes_0 rfl ?_
  refine mm_iconst C (pc := 1) (v := (0 : Int32)) dX12_minutes_1 (by decide) ?_
  replace hK := mm_bd hK; obtain ⟨h2, e2, hK⟩ := hK
  refine mm_puti C (pc := 2) (k := 4) false (fun z => by cases z) inGX12 tyX12 tyX12_ok nmX12 rfl (by decide) wd_2003 rfl rfl dX12_minutes_2 e2 ?_
  refine mm_iload_n C (pc := 5) 1 dX12_minutes_5 rfl ?_
  refine mm_i2l C (pc := 6) dX12_minutes_6 ?_
  refine mm_lconst C (pc := 7) (v := (1 : Int64)) dX12_minutes_7 (by decide) ?_
  refine mm_ldc2 C (pc := 8) (v := (99 : Int64)) dX12_minutes_8 wd_2387 ?_
  replace hK := mm_b2s hK; obtain ⟨v11, h11, e11, hK⟩ := hK
  refine mm_callS C (pc := 11) (d1 := 1) (As := [.long (a1.toInt64), .long (1 : Int64), .long (99 : Int64)]) (st := []) (vk := (some (.int v11))) ((S_X12_within (by omega)) e11) tT_X12_within wd_2157 wd_2158 (by omega) (by decide) rfl (by simp [mm_crf, mm_cti, mm_ctl]) rfl dX12_minutes_11 ?_
  show V _ _ (.int v11 :: _) _
  refine mm_if_ne C (pc := 14) (tgt := 23) dX12_minutes_14 (by decide) (fun hc => ?_) (fun hc => ?_)
  · replace hK := mm_in hc hK
    refine mm_aload_n C (pc := 23) 0 dX12_minutes_23 rfl ?_
    replace hK := mm_bd hK; obtain ⟨h24, e24, hK⟩ := hK
    obtain ⟨o24, e24⟩ := cV_some e24
    refine mm_callV C (pc := 24) (d1 := 1) (As := []) (st := []) (vk := none) ((S_X12_keeps (by omega)) e24) tT_X12_keeps o24 (Or.inr ⟨_, rfl, rfl⟩) wd_2388 wd_2390 wd_98 (by omega) (by decide) rfl (by simp [mm_crf, mm_cti, mm_ctl]) rfl dX12_minutes_24 ?_
    show V _ _ [] _
    refine mm_iconst C (pc := 27) (v := (0 : Int32)) dX12_minutes_27 (by decide) ?_
    refine mm_istore_n C (pc := 28) (i := 2) (lv' := [(2, .int (0 : Int32)), (0, va_rf a0), (1, .int a1)]) dX12_minutes_28 rfl (by decide) rfl ?_
    refine mm_iconst C (pc := 29) (v := (0 : Int32)) dX12_minutes_29 (by decide) ?_
    refine mm_istore_n C (pc := 30) (i := 3) (lv' := [(3, .int (0 : Int32)), (2, .int (0 : Int32)), (0, va_rf a0), (1, .int a1)]) dX12_minutes_30 rfl (by decide) rfl ?_
    refine mm_sub C [2, 3, 1, 0] rfl ?_
    exact w_X12_minutes_31 hd C _ _ _ _ _ _ hK
  · replace hK := mm_ip hc hK
    refine mm_aload_n C (pc := 17) 0 dX12_minutes_17 rfl ?_
    refine mm_iconst C (pc := 18) (v := (1 : Int32)) dX12_minutes_18 (by decide) ?_
    replace hK := mm_b2s hK; obtain ⟨v19, h19, e19, hK⟩ := hK
    obtain ⟨o19, e19⟩ := cV_some e19
    refine mm_callV C (pc := 19) (d1 := 1) (As := [.int (1 : Int32)]) (st := []) (vk := (some (.int v19))) ((S_X12_fails (by omega)) e19) tT_X12_fails o19 (Or.inr ⟨_, rfl, rfl⟩) wd_2160 wd_2162 wd_61 (by omega) (by decide) rfl (by simp [mm_crf, mm_cti, mm_ctl]) rfl dX12_minutes_19 ?_
    show V _ _ (.int v19 :: _) _
    cases hK
    exact mm_iret C (pc := 22) rfl dX12_minutes_22 rfl rfl
theorem wd_2431 : Cond.constantLong RX12 358 (10 : Int64) ∈ lw_good := mm_wd 2431 (by decide +kernel) (by decide +kernel)
def F_X12_undo_28 (l0 : Option Nat) (h : MH) : Option (Int32 × MH) := mm_b2 (cV h l0 12 (F_X12_fails l0 (1 : Int32) h)) fun v30 h30 => some (v30, h30)
set_option maxRecDepth 20000 in
set_option maxHeartbeats 4000000 in
theorem w_X12_undo_28 {d : Nat} {V : Nat → List (Nat × Value) → List Value → MH → Prop} {r : Int32} {hz : MH} (hd : 2 ≤ d) (C : mm_C d yX12_undo cX12_undo 3 (some .int) (.inr (some (.int r))) hz V) (l0 : Option Nat) (h : MH) (hK : F_X12_undo_28 l0 h = some (r, hz)) : V 28 [(0, va_rf l0)] [] h := by
  unfold F_X12_undo_28 at hK
  refine mm_aload_n C (pc := 28) 0 dX12_undo_28 rfl ?_
  refine mm_iconst C (pc := 29) (v := (1 : Int32)) dX12_undo_29 (by decide) ?_
  replace hK := mm_b2s hK; obtain ⟨v30, h30, e30, hK⟩ := hK
  obtain ⟨o30, e30⟩ := cV_some e30
  refine mm_callV C (pc := 30) (d1 := 1) (As := [.int (1 : Int32)]) (st := []) (vk := (some (.int v30))) ((S_X12_fails (by omega)) e30) tT_X12_fails o30 (Or.inr ⟨_, rfl, rfl⟩) wd_2160 wd_2162 wd_61 (by omega) (by decide) rfl (by simp [mm_crf, mm_cti, mm_ctl]) rfl dX12_undo_30 ?_
  show V _ _ (.int v30 :: _) _
  cases hK
  exact mm_iret C (pc := 33) rfl dX12_undo_33 rfl rfl
def F_X12_undo_47 : Nat → Option Nat → Int32 → MH → Option (Int32 × MH)
  | 0 => fun _ _ _ => none
  | n + 1 => fun l0 l2 h => if (41 : Int32) ≤ l2 then ((gR h l0 12 0).bind fun v89 => (aI h v89 0 (6 : Int32)).bind fun v94 => some (v94, h)) else ((gR h l0 12 0).bind fun v54 => (gR h l0 12 0).bind fun v62 => (gR h l0 12 0).bind fun v70 => (aI h v70 0 (6 : Int32)).bind fun v75 => (aI h v62 0 (((91 : Int32) + ((41 : Int32) * v75)) + l2)).bind fun v80 => (sI h v54 0 ((7 : Int32) + l2) v80).bind fun h81 => F_X12_undo_47 n l0 (l2 + (1 : Int32)) h81)
set_option maxRecDepth 20000 in
set_option maxHeartbeats 4000000 in
theorem w_X12_undo_47 {d : Nat} {V : Nat → List (Nat × Value) → List Value → MH → Prop} {r : Int32} {hz : MH} (hd : 2 ≤ d) (C : mm_C d yX12_undo cX12_undo 3 (some .int) (.inr (some (.int r))) hz V) : ∀ (n : Nat) (l0 : Option Nat) (l2 : Int32) (h : MH), F_X12_undo_47 n l0 l2 h = some (r, hz) → V 47 [(0, va_rf l0), (2, .int l2)] [] h := by
  intro n
  induction n with
  | zero => intro l0 l2 h hK; cases hK
  | succ n ih =>
    intro l0 l2 h hK
    replace hK : (if (41 : Int32) ≤ l2 then ((gR h l0 12 0).bind fun v89 => (aI h v89 0 (6 : Int32)).bind fun v94 => some (v94, h)) else ((gR h l0 12 0).bind fun v54 => (gR h l0 12 0).bind fun v62 => (gR h l0 12 0).bind fun v70 => (aI h v70 0 (6 : Int32)).bind fun v75 => (aI h v62 0 (((91 : Int32) + ((41 : Int32) * v75)) + l2)).bind fun v80 => (sI h v54 0 ((7 : Int32) + l2) v80).bind fun h81 => F_X12_undo_47 n l0 (l2 + (1 : Int32)) h81)) = some (r, hz) := hK
    refine mm_iload_n C (pc := 47) 1 dX12_undo_47 rfl ?_
    refine mm_bipush C (pc := 48) (v := (41 : Int32)) dX12_undo_48 (by decide) ?_
    refine mm_icmp_ge C (pc := 50) (tgt := 88) dX12_undo_50 (by decide) (fun hc => ?_) (fun hc => ?_)
    · replace hK := mm_ip hc hK
      refine mm_aload_n C (pc := 88) 0 dX12_undo_88 rfl ?_
      replace hK := mm_bd hK; obtain ⟨v89, e89, hK⟩ := hK
      refine mm_getr C (pc := 89) (k := 0) inGX12 rfl (by decide) wd_1999 dX12_undo_89 e89 ?_
      refine mm_bipush C (pc := 92) (v := (6 : Int32)) dX12_undo_92 (by decide) ?_
      replace hK := mm_bd hK; obtain ⟨v94, e94, hK⟩ := hK
      refine mm_iald C (pc := 94) dX12_undo_94 e94 ?_
      cases hK
      exact mm_iret C (pc := 95) rfl dX12_undo_95 rfl rfl
    · replace hK := mm_in hc hK
      refine mm_aload_n C (pc := 53) 0 dX12_undo_53 rfl ?_
      replace hK := mm_bd hK; obtain ⟨v54, e54, hK⟩ := hK
      refine mm_getr C (pc := 54) (k := 0) inGX12 rfl (by decide) wd_1999 dX12_undo_54 e54 ?_
      refine mm_bipush C (pc := 57) (v := (7 : Int32)) dX12_undo_57 (by decide) ?_
      refine mm_iload_n C (pc := 59) 1 dX12_undo_59 rfl ?_
      refine mm_iadd C (pc := 60) dX12_undo_60 ?_
      refine mm_aload_n C (pc := 61) 0 dX12_undo_61 rfl ?_
      replace hK := mm_bd hK; obtain ⟨v62, e62, hK⟩ := hK
      refine mm_getr C (pc := 62) (k := 0) inGX12 rfl (by decide) wd_1999 dX12_undo_62 e62 ?_
      refine mm_bipush C (pc := 65) (v := (91 : Int32)) dX12_undo_65 (by decide) ?_
      refine mm_bipush C (pc := 67) (v := (41 : Int32)) dX12_undo_67 (by decide) ?_
      refine mm_aload_n C (pc := 69) 0 dX12_undo_69 rfl ?_
      replace hK := mm_bd hK; obtain ⟨v70, e70, hK⟩ := hK
      refine mm_getr C (pc := 70) (k := 0) inGX12 rfl (by decide) wd_1999 dX12_undo_70 e70 ?_
      refine mm_bipush C (pc := 73) (v := (6 : Int32)) dX12_undo_73 (by decide) ?_
      replace hK := mm_bd hK; obtain ⟨v75, e75, hK⟩ := hK
      refine mm_iald C (pc := 75) dX12_undo_75 e75 ?_
      refine mm_imul C (pc := 76) dX12_undo_76 ?_
      refine mm_iadd C (pc := 77) dX12_undo_77 ?_
      refine mm_iload_n C (pc := 78) 1 dX12_undo_78 rfl ?_
      refine mm_iadd C (pc := 79) dX12_undo_79 ?_
      replace hK := mm_bd hK; obtain ⟨v80, e80, hK⟩ := hK
      refine mm_iald C (pc := 80) dX12_undo_80 e80 ?_
      replace hK := mm_bd hK; obtain ⟨h81, e81, hK⟩ := hK
      refine mm_iast C (pc := 81) dX12_undo_81 e81 ?_
      refine mm_iinc C (pc := 82) (v := (l2 + (1 : Int32))) (lv' := [(2, .int (l2 + (1 : Int32))), (0, va_rf l0)]) 1 dX12_undo_82 rfl rfl (by decide) rfl ?_
      refine mm_goto C (pc := 85) (tgt := 47) dX12_undo_85 (by decide) ?_
      refine mm_sub C [1, 0] rfl ?_
      exact ih _ _ _ hK
def F_X12_undo (a0 : Option Nat) (a1 : Int32) (h : MH) : Option (Int32 × MH) := (pI h a0 12 4 (0 : Int32)).bind fun h2 => mm_b2 (F_X12_within (a1.toInt64) (1 : Int64) (10 : Int64) h2) fun v11 h11 => if v11 = 0 then (F_X12_undo_28 a0 h11) else ((gR h11 a0 12 0).bind fun v19 => (aI h11 v19 0 (6 : Int32)).bind fun v24 => if a1 ≤ v24 then ((gR h11 a0 12 0).bind fun v35 => (aI h11 v35 0 (6 : Int32)).bind fun v41 => (sI h11 v35 0 (6 : Int32) (v41 - a1)).bind fun h44 => F_X12_undo_47 mm_N a0 (0 : Int32) h44) else (F_X12_undo_28 a0 h11))
set_option maxRecDepth 20000 in
set_option maxHeartbeats 4000000 in
theorem S_X12_undo {d : Nat} (hd : 2 ≤ d) {a0 : Option Nat} {a1 : Int32} {h : MH} {r : Int32} {hz : MH} (hK : F_X12_undo a0 a1 h = some (r, hz)) : mm_M yX12_undo cX12_undo 3 (some .int) d [va_rf a0, .int a1] h (.inr (some (.int r))) hz := by
  refine mm_ofV (by decide +kernel) (by simp [lg_sl, mm_crf, mm_cti, mm_ctl]) (fun V C => ?_)
  rw [show lv_args 0 [va_rf a0, .int a1] = [(0, va_rf a0), (1, .int a1)] by simp [lv_args, mm_crf, mm_cti, mm_ctl]]
  unfold F_X12_undo at hK
  refine mm_aload_n C (pc := 0) 0 dX12_undo_0 rfl ?_
  refine mm_iconst C (pc := 1) (v := (0 : Int32)) dX12_undo_1 (by decide) ?_
  replace hK := mm_bd hK; obtain ⟨h2, e2, hK⟩ := hK
  refine mm_puti C (pc := 2) (k := 4) false (fun z => by cases z) inGX12 tyX12 tyX12_ok nmX12 rfl (by decide) wd_2003 rfl rfl dX12_undo_2 e2 ?_
  refine mm_iload_n C (pc := 5) 1 dX12_undo_5 rfl ?_
  refine mm_i2l C (pc := 6) dX12_undo_6 ?_
  refine mm_lconst C (pc := 7) (v := (1 : Int64)) dX12_undo_7 (by decide) ?_
  refine mm_ldc2 C (pc := 8) (v := (10 : Int64)) dX12_undo_8 wd_2431 ?_
  replace hK := mm_b2s hK; obtain ⟨v11, h11, e11, hK⟩ := hK
  refine mm_callS C (pc := 11) (d1 := 1) (As := [.long (a1.toInt64), .long (1 : Int64), .long (10 : Int64)]) (st := []) (vk := (some (.int v11))) ((S_X12_within (by omega)) e11) tT_X12_within wd_2157 wd_2158 (by omega) (by decide) rfl (by simp [mm_crf, mm_cti, mm_ctl]) rfl dX12_undo_11 ?_
  show V _ _ (.int v11 :: _) _
  refine mm_if_eq C (pc := 14) (tgt := 28) dX12_undo_14 (by decide) (fun hc => ?_) (fun hc => ?_)
  · replace hK := mm_ip hc hK
    refine mm_sub C [0] rfl ?_
    exact w_X12_undo_28 hd C _ _ hK
  · replace hK := mm_in hc hK
    refine mm_iload_n C (pc := 17) 1 dX12_undo_17 rfl ?_
    refine mm_aload_n C (pc := 18) 0 dX12_undo_18 rfl ?_
    replace hK := mm_bd hK; obtain ⟨v19, e19, hK⟩ := hK
    refine mm_getr C (pc := 19) (k := 0) inGX12 rfl (by decide) wd_1999 dX12_undo_19 e19 ?_
    refine mm_bipush C (pc := 22) (v := (6 : Int32)) dX12_undo_22 (by decide) ?_
    replace hK := mm_bd hK; obtain ⟨v24, e24, hK⟩ := hK
    refine mm_iald C (pc := 24) dX12_undo_24 e24 ?_
    refine mm_icmp_le C (pc := 25) (tgt := 34) dX12_undo_25 (by decide) (fun hc => ?_) (fun hc => ?_)
    · replace hK := mm_ip hc hK
      refine mm_aload_n C (pc := 34) 0 dX12_undo_34 rfl ?_
      replace hK := mm_bd hK; obtain ⟨v35, e35, hK⟩ := hK
      refine mm_getr C (pc := 35) (k := 0) inGX12 rfl (by decide) wd_1999 dX12_undo_35 e35 ?_
      refine mm_bipush C (pc := 38) (v := (6 : Int32)) dX12_undo_38 (by decide) ?_
      refine mm_dup2 C (pc := 40) dX12_undo_40 rfl mm_crf ?_
      replace hK := mm_bd hK; obtain ⟨v41, e41, hK⟩ := hK
      refine mm_iald C (pc := 41) dX12_undo_41 e41 ?_
      refine mm_iload_n C (pc := 42) 1 dX12_undo_42 rfl ?_
      refine mm_isub C (pc := 43) dX12_undo_43 ?_
      replace hK := mm_bd hK; obtain ⟨h44, e44, hK⟩ := hK
      refine mm_iast C (pc := 44) dX12_undo_44 e44 ?_
      refine mm_iconst C (pc := 45) (v := (0 : Int32)) dX12_undo_45 (by decide) ?_
      refine mm_istore_n C (pc := 46) (i := 2) (lv' := [(2, .int (0 : Int32)), (0, va_rf a0), (1, .int a1)]) dX12_undo_46 rfl (by decide) rfl ?_
      refine mm_sub C [1, 0] rfl ?_
      exact w_X12_undo_47 hd C _ _ _ _ hK
    · replace hK := mm_in hc hK
      refine mm_sub C [0] rfl ?_
      exact w_X12_undo_28 hd C _ _ hK
theorem wd_2443 : Cond.constantLong RX12 376 (3 : Int64) ∈ lw_good := mm_wd 2443 (by decide +kernel) (by decide +kernel)
def F_X12_isTray (a0 : Int32) (h : MH) : Option (Int32 × MH) := mm_b2 (F_X12_within (a0.toInt64) (0 : Int64) (3 : Int64) h) fun v6 h6 => rZ v6 h6
set_option maxRecDepth 20000 in
set_option maxHeartbeats 4000000 in
theorem S_X12_isTray {d : Nat} (hd : 2 ≤ d) {a0 : Int32} {h : MH} {r : Int32} {hz : MH} (hK : F_X12_isTray a0 h = some (r, hz)) : mm_M yX12_isTray cX12_isTray 1 (some .boolean) d [.int a0] h (.inr (some (.int r))) hz := by
  refine mm_ofV (by decide +kernel) (by simp [lg_sl, mm_crf, mm_cti, mm_ctl]) (fun V C => ?_)
  rw [show lv_args 0 [.int a0] = [(0, .int a0)] by simp [lv_args, mm_crf, mm_cti, mm_ctl]]
  unfold F_X12_isTray at hK
  refine mm_iload_n C (pc := 0) 0 dX12_isTray_0 rfl ?_
  refine mm_i2l C (pc := 1) dX12_isTray_1 ?_
  refine mm_lconst C (pc := 2) (v := (0 : Int64)) dX12_isTray_2 (by decide) ?_
  refine mm_ldc2 C (pc := 3) (v := (3 : Int64)) dX12_isTray_3 wd_2443 ?_
  replace hK := mm_b2s hK; obtain ⟨v6, h6, e6, hK⟩ := hK
  refine mm_callS C (pc := 6) (d1 := 1) (As := [.long (a0.toInt64), .long (0 : Int64), .long (3 : Int64)]) (st := []) (vk := (some (.int v6))) ((S_X12_within (by omega)) e6) tT_X12_within wd_2157 wd_2158 (by omega) (by decide) rfl (by simp [mm_crf, mm_cti, mm_ctl]) rfl dX12_isTray_6 ?_
  show V _ _ (.int v6 :: _) _
  replace hK := rZ_some hK; obtain ⟨hv9, hK⟩ := hK
  cases hK
  exact mm_zret C (pc := 9) rfl (mm_nrZ hv9) dX12_isTray_9 rfl rfl
theorem wd_2442 : Cond.code yX12_isTray cX12_isTray 1 (some .boolean) ∈ lw_good := mm_wd 2442 (by decide +kernel) (by decide +kernel)
theorem tT_X12_isTray : mm_T yX12_isTray cX12_isTray 1 (some .boolean) 1 := ⟨wd_2442, wd_170, by decide +kernel, by decide +kernel, by decide +kernel, by decide +kernel⟩
theorem wd_2440 : Cond.methodLink RX12 360 yX12_isTray ∈ lw_good := mm_wd 2440 (by decide +kernel) (by decide +kernel)
theorem wd_2441 : Cond.static yX12_isTray ∈ lw_good := mm_wd 2441 (by decide +kernel) (by decide +kernel)
def F_X12_trayFault_26 (s0 : Int32) (h : MH) : Option (Int32 × MH) := some (s0, h)
set_option maxRecDepth 20000 in
set_option maxHeartbeats 4000000 in
theorem w_X12_trayFault_26 {d : Nat} {V : Nat → List (Nat × Value) → List Value → MH → Prop} {r : Int32} {hz : MH} (hd : 3 ≤ d) (C : mm_C d yX12_trayFault cX12_trayFault 2 (some .int) (.inr (some (.int r))) hz V) (s0 : Int32) (h : MH) (hK : F_X12_trayFault_26 s0 h = some (r, hz)) : V 26 [] [.int s0] h := by
  unfold F_X12_trayFault_26 at hK
  cases hK
  exact mm_iret C (pc := 26) rfl dX12_trayFault_26 rfl rfl
def F_X12_trayFault (a0 : Option Nat) (a1 : Int32) (h : MH) : Option (Int32 × MH) := mm_b2 (F_X12_isTray a1 h) fun v1 h1 => if v1 = 0 then (F_X12_trayFault_26 (1 : Int32) h1) else ((gR h1 a0 12 45).bind fun v12 => (aI h1 v12 0 a1).bind fun v16 => if v16 = ((-1) : Int32) then (F_X12_trayFault_26 (2 : Int32) h1) else (F_X12_trayFault_26 (0 : Int32) h1))
set_option maxRecDepth 20000 in
set_option maxHeartbeats 4000000 in
theorem S_X12_trayFault {d : Nat} (hd : 3 ≤ d) {a0 : Option Nat} {a1 : Int32} {h : MH} {r : Int32} {hz : MH} (hK : F_X12_trayFault a0 a1 h = some (r, hz)) : mm_M yX12_trayFault cX12_trayFault 2 (some .int) d [va_rf a0, .int a1] h (.inr (some (.int r))) hz := by
  refine mm_ofV (by decide +kernel) (by simp [lg_sl, mm_crf, mm_cti, mm_ctl]) (fun V C => ?_)
  rw [show lv_args 0 [va_rf a0, .int a1] = [(0, va_rf a0), (1, .int a1)] by simp [lv_args, mm_crf, mm_cti, mm_ctl]]
  unfold F_X12_trayFault at hK
  refine mm_iload_n C (pc := 0) 1 dX12_trayFault_0 rfl ?_
  replace hK := mm_b2s hK; obtain ⟨v1, h1, e1, hK⟩ := hK
  refine mm_callS C (pc := 1) (d1 := 2) (As := [.int a1]) (st := []) (vk := (some (.int v1))) ((S_X12_isTray (by omega)) e1) tT_X12_isTray wd_2440 wd_2441 (by omega) (by decide) rfl (by simp [mm_crf, mm_cti, mm_ctl]) rfl dX12_trayFault_1 ?_
  show V _ _ (.int v1 :: _) _
  refine mm_if_ne C (pc := 4) (tgt := 11) dX12_trayFault_4 (by decide) (fun hc => ?_) (fun hc => ?_)
  · replace hK := mm_in hc hK
    refine mm_aload_n C (pc := 11) 0 dX12_trayFault_11 rfl ?_
    replace hK := mm_bd hK; obtain ⟨v12, e12, hK⟩ := hK
    refine mm_getr C (pc := 12) (k := 45) inGX12 rfl (by decide) wd_2044 dX12_trayFault_12 e12 ?_
    refine mm_iload_n C (pc := 15) 1 dX12_trayFault_15 rfl ?_
    replace hK := mm_bd hK; obtain ⟨v16, e16, hK⟩ := hK
    refine mm_iald C (pc := 16) dX12_trayFault_16 e16 ?_
    refine mm_iconst C (pc := 17) (v := ((-1) : Int32)) dX12_trayFault_17 (by decide) ?_
    refine mm_icmp_ne C (pc := 18) (tgt := 25) dX12_trayFault_18 (by decide) (fun hc => ?_) (fun hc => ?_)
    · replace hK := mm_in hc hK
      refine mm_iconst C (pc := 25) (v := (0 : Int32)) dX12_trayFault_25 (by decide) ?_
      refine mm_sub C [] rfl ?_
      exact w_X12_trayFault_26 hd C _ _ hK
    · replace hK := mm_ip hc hK
      refine mm_iconst C (pc := 21) (v := (2 : Int32)) dX12_trayFault_21 (by decide) ?_
      refine mm_goto C (pc := 22) (tgt := 26) dX12_trayFault_22 (by decide) ?_
      refine mm_sub C [] rfl ?_
      exact w_X12_trayFault_26 hd C _ _ hK
  · replace hK := mm_ip hc hK
    refine mm_iconst C (pc := 7) (v := (1 : Int32)) dX12_trayFault_7 (by decide) ?_
    refine mm_goto C (pc := 8) (tgt := 26) dX12_trayFault_8 (by decide) ?_
    refine mm_sub C [] rfl ?_
    exact w_X12_trayFault_26 hd C _ _ hK
theorem wd_2452 : Cond.constantLong RX12 363 ((-1) : Int64) ∈ lw_good := mm_wd 2452 (by decide +kernel) (by decide +kernel)
theorem wd_2454 : Cond.constantLong RX12 367 (100 : Int64) ∈ lw_good := mm_wd 2454 (by decide +kernel) (by decide +kernel)
theorem wd_2455 : Cond.constantLong RX12 369 (199 : Int64) ∈ lw_good := mm_wd 2455 (by decide +kernel) (by decide +kernel)
theorem wd_2456 : Cond.constantLong RX12 371 (200 : Int64) ∈ lw_good := mm_wd 2456 (by decide +kernel) (by decide +kernel)
theorem wd_2453 : Cond.constantLong RX12 365 (5 : Int64) ∈ lw_good := mm_wd 2453 (by decide +kernel) (by decide +kernel)
def F_X12_whyTold_91 (s0 : Int32) (h : MH) : Option (Int32 × MH) := some (s0, h)
set_option maxRecDepth 20000 in
set_option maxHeartbeats 4000000 in
theorem w_X12_whyTold_91 {d : Nat} {V : Nat → List (Nat × Value) → List Value → MH → Prop} {r : Int32} {hz : MH} (hd : 4 ≤ d) (C : mm_C d yX12_whyTold cX12_whyTold 3 (some .int) (.inr (some (.int r))) hz V) (s0 : Int32) (h : MH) (hK : F_X12_whyTold_91 s0 h = some (r, hz)) : V 91 [] [.int s0] h := by
  unfold F_X12_whyTold_91 at hK
  cases hK
  exact mm_iret C (pc := 91) rfl dX12_whyTold_91 rfl rfl
def F_X12_whyTold_69 (s0 : Int32) (h : MH) : Option (Int32 × MH) := some (s0, h)
set_option maxRecDepth 20000 in
set_option maxHeartbeats 4000000 in
theorem w_X12_whyTold_69 {d : Nat} {V : Nat → List (Nat × Value) → List Value → MH → Prop} {r : Int32} {hz : MH} (hd : 4 ≤ d) (C : mm_C d yX12_whyTold cX12_whyTold 3 (some .int) (.inr (some (.int r))) hz V) (s0 : Int32) (h : MH) (hK : F_X12_whyTold_69 s0 h = some (r, hz)) : V 69 [] [.int s0] h := by
  unfold F_X12_whyTold_69 at hK
  cases hK
  exact mm_iret C (pc := 69) rfl dX12_whyTold_69 rfl rfl
def F_X12_whyTold (a0 : Option Nat) (a1 : Int64) (h : MH) : Option (Int32 × MH) := if (lg_cmp a1 ((-1) : Int64)) = 0 then (some ((0 : Int32), h)) else (mm_b2 (F_X12_within a1 (0 : Int64) (99 : Int64) h) fun v15 h15 => if v15 = 0 then (mm_b2 (F_X12_within a1 (100 : Int64) (199 : Int64) h15) fun v46 h46 => if v46 = 0 then (if (lg_cmp a1 (200 : Int64)) < 0 then (F_X12_whyTold_91 (1 : Int32) h46) else (mm_b2 (cV h46 a0 12 (F_X12_whyPull a0 (a1 - (200 : Int64)) h46)) fun v84 h84 => F_X12_whyTold_91 v84 h84)) else (mm_b2 (cV h46 a0 12 (F_X12_isLine a0 (a1 - (100 : Int64)) h46)) fun v58 h58 => if v58 = 0 then (F_X12_whyTold_69 (1 : Int32) h58) else (F_X12_whyTold_69 (0 : Int32) h58))) else (mm_b2 (cV h15 a0 12 (F_X12_whyDial a0 (a1 / (10 : Int64)) (a1 - a1 / (10 : Int64) * (10 : Int64)) (5 : Int64) h15)) fun v35 h35 => some (v35, h35)))
set_option maxRecDepth 20000 in
set_option maxHeartbeats 4000000 in
theorem S_X12_whyTold {d : Nat} (hd : 4 ≤ d) {a0 : Option Nat} {a1 : Int64} {h : MH} {r : Int32} {hz : MH} (hK : F_X12_whyTold a0 a1 h = some (r, hz)) : mm_M yX12_whyTold cX12_whyTold 3 (some .int) d [va_rf a0, .long a1] h (.inr (some (.int r))) hz := by
  refine mm_ofV (by decide +kernel) (by simp [lg_sl, mm_crf, mm_cti, mm_ctl]) (fun V C => ?_)
  rw [show lv_args 0 [va_rf a0, .long a1] = [(0, va_rf a0), (1, .long a1)] by simp [lv_args, mm_crf, mm_cti, mm_ctl]]
  unfold F_X12_whyTold at hK
  refine mm_lload_n C (pc := 0) 1 dX12_whyTold_0 rfl ?_
  refine mm_ldc2 C (pc := 1) (v := ((-1) : Int64)) dX12_whyTold_1 wd_2452 ?_
  refine mm_lcmp C (pc := 4) dX12_whyTold_4 ?_
  refine mm_if_ne C (pc := 5) (tgt := 10) dX12_whyTold_5 (by decide) (fun hc => ?_) (fun hc => ?_)
  · replace hK := mm_in hc hK
    refine mm_lload_n C (pc := 10) 1 dX12_whyTold_10 rfl ?_
    refine mm_lconst C (pc := 11) (v := (0 : Int64)) dX12_whyTold_11 (by decide) ?_
    refine mm_ldc2 C (pc := 12) (v := (99 : Int64)) dX12_whyTold_12 wd_2387 ?_
    replace hK := mm_b2s hK; obtain ⟨v15, h15, e15, hK⟩ := hK
    refine mm_callS C (pc := 15) (d1 := 1) (As := [.long a1, .long (0 : Int64), .long (99 : Int64)]) (st := []) (vk := (some (.int v15))) ((S_X12_within (by omega)) e15) tT_X12_within wd_2157 wd_2158 (by omega) (by decide) rfl (by simp [mm_crf, mm_cti, mm_ctl]) rfl dX12_whyTold_15 ?_
    show V _ _ (.int v15 :: _) _
    refine mm_if_eq C (pc := 18) (tgt := 39) dX12_whyTold_18 (by decide) (fun hc => ?_) (fun hc => ?_)
    · replace hK := mm_ip hc hK
      refine mm_lload_n C (pc := 39) 1 dX12_whyTold_39 rfl ?_
      refine mm_ldc2 C (pc := 40) (v := (100 : Int64)) dX12_whyTold_40 wd_2454 ?_
      refine mm_ldc2 C (pc := 43) (v := (199 : Int64)) dX12_whyTold_43 wd_2455 ?_
      replace hK := mm_b2s hK; obtain ⟨v46, h46, e46, hK⟩ := hK
      refine mm_callS C (pc := 46) (d1 := 1) (As := [.long a1, .long (100 : Int64), .long (199 : Int64)]) (st := []) (vk := (some (.int v46))) ((S_X12_within (by omega)) e46) tT_X12_within wd_2157 wd_2158 (by omega) (by decide) rfl (by simp [mm_crf, mm_cti, mm_ctl]) rfl dX12_whyTold_46 ?_
      show V _ _ (.int v46 :: _) _
      refine mm_if_eq C (pc := 49) (tgt := 70) dX12_whyTold_49 (by decide) (fun hc => ?_) (fun hc => ?_)
      · replace hK := mm_ip hc hK
        refine mm_lload_n C (pc := 70) 1 dX12_whyTold_70 rfl ?_
        refine mm_ldc2 C (pc := 71) (v := (200 : Int64)) dX12_whyTold_71 wd_2456 ?_
        refine mm_lcmp C (pc := 74) dX12_whyTold_74 ?_
        refine mm_if_lt C (pc := 75) (tgt := 90) dX12_whyTold_75 (by decide) (fun hc => ?_) (fun hc => ?_)
        · replace hK := mm_ip hc hK
          refine mm_iconst C (pc := 90) (v := (1 : Int32)) dX12_whyTold_90 (by decide) ?_
          refine mm_sub C [] rfl ?_
          exact w_X12_whyTold_91 hd C _ _ hK
        · replace hK := mm_in hc hK
          refine mm_aload_n C (pc := 78) 0 dX12_whyTold_78 rfl ?_
          refine mm_lload_n C (pc := 79) 1 dX12_whyTold_79 rfl ?_
          refine mm_ldc2 C (pc := 80) (v := (200 : Int64)) dX12_whyTold_80 wd_2456 ?_
          refine mm_lsub C (pc := 83) dX12_whyTold_83 ?_
          replace hK := mm_b2s hK; obtain ⟨v84, h84, e84, hK⟩ := hK
          obtain ⟨o84, e84⟩ := cV_some e84
          refine mm_callV C (pc := 84) (d1 := 3) (As := [.long (a1 - (200 : Int64))]) (st := []) (vk := (some (.int v84))) ((S_X12_whyPull (by omega)) e84) tT_X12_whyPull o84 (Or.inr ⟨_, rfl, rfl⟩) wd_2396 wd_2398 wd_99 (by omega) (by decide) rfl (by simp [mm_crf, mm_cti, mm_ctl]) rfl dX12_whyTold_84 ?_
          show V _ _ (.int v84 :: _) _
          refine mm_goto C (pc := 87) (tgt := 91) dX12_whyTold_87 (by decide) ?_
          refine mm_sub C [] rfl ?_
          exact w_X12_whyTold_91 hd C _ _ hK
      · replace hK := mm_in hc hK
        refine mm_aload_n C (pc := 52) 0 dX12_whyTold_52 rfl ?_
        refine mm_lload_n C (pc := 53) 1 dX12_whyTold_53 rfl ?_
        refine mm_ldc2 C (pc := 54) (v := (100 : Int64)) dX12_whyTold_54 wd_2454 ?_
        refine mm_lsub C (pc := 57) dX12_whyTold_57 ?_
        replace hK := mm_b2s hK; obtain ⟨v58, h58, e58, hK⟩ := hK
        obtain ⟨o58, e58⟩ := cV_some e58
        refine mm_callV C (pc := 58) (d1 := 2) (As := [.long (a1 - (100 : Int64))]) (st := []) (vk := (some (.int v58))) ((S_X12_isLine (by omega)) e58) tT_X12_isLine o58 (Or.inr ⟨_, rfl, rfl⟩) wd_2307 wd_2309 wd_88 (by omega) (by decide) rfl (by simp [mm_crf, mm_cti, mm_ctl]) rfl dX12_whyTold_58 ?_
        show V _ _ (.int v58 :: _) _
        refine mm_if_eq C (pc := 61) (tgt := 68) dX12_whyTold_61 (by decide) (fun hc => ?_) (fun hc => ?_)
        · replace hK := mm_ip hc hK
          refine mm_iconst C (pc := 68) (v := (1 : Int32)) dX12_whyTold_68 (by decide) ?_
          refine mm_sub C [] rfl ?_
          exact w_X12_whyTold_69 hd C _ _ hK
        · replace hK := mm_in hc hK
          refine mm_iconst C (pc := 64) (v := (0 : Int32)) dX12_whyTold_64 (by decide) ?_
          refine mm_goto C (pc := 65) (tgt := 69) dX12_whyTold_65 (by decide) ?_
          refine mm_sub C [] rfl ?_
          exact w_X12_whyTold_69 hd C _ _ hK
    · replace hK := mm_in hc hK
      refine mm_aload_n C (pc := 21) 0 dX12_whyTold_21 rfl ?_
      refine mm_lload_n C (pc := 22) 1 dX12_whyTold_22 rfl ?_
      refine mm_ldc2 C (pc := 23) (v := (10 : Int64)) dX12_whyTold_23 wd_2431 ?_
      refine mm_ldiv C (pc := 26) dX12_whyTold_26 (by decide) ?_
      refine mm_lload_n C (pc := 27) 1 dX12_whyTold_27 rfl ?_
      refine mm_ldc2 C (pc := 28) (v := (10 : Int64)) dX12_whyTold_28 wd_2431 ?_
      refine mm_lrem C (pc := 31) dX12_whyTold_31 (by decide) ?_
      refine mm_ldc2 C (pc := 32) (v := (5 : Int64)) dX12_whyTold_32 wd_2453 ?_
      replace hK := mm_b2s hK; obtain ⟨v35, h35, e35, hK⟩ := hK
      obtain ⟨o35, e35⟩ := cV_some e35
      refine mm_callV C (pc := 35) (d1 := 3) (As := [.long (a1 / (10 : Int64)), .long (a1 - a1 / (10 : Int64) * (10 : Int64)), .long (5 : Int64)]) (st := []) (vk := (some (.int v35))) ((S_X12_whyDial (by omega)) e35) tT_X12_whyDial o35 (Or.inr ⟨_, rfl, rfl⟩) wd_2383 wd_2385 wd_97 (by omega) (by decide) rfl (by simp [mm_crf, mm_cti, mm_ctl]) rfl dX12_whyTold_35 ?_
      show V _ _ (.int v35 :: _) _
      cases hK
      exact mm_iret C (pc := 38) rfl dX12_whyTold_38 rfl rfl
  · replace hK := mm_ip hc hK
    refine mm_iconst C (pc := 8) (v := (0 : Int32)) dX12_whyTold_8 (by decide) ?_
    cases hK
    exact mm_iret C (pc := 9) rfl dX12_whyTold_9 rfl rfl
def F_X12_does_84 (h : MH) : Option MH := some h
set_option maxRecDepth 20000 in
set_option maxHeartbeats 4000000 in
theorem w_X12_does_84 {d : Nat} {V : Nat → List (Nat × Value) → List Value → MH → Prop} {hz : MH} (hd : 8 ≤ d) (C : mm_C d yX12_does cX12_does 2 none (.inr none) hz V) (h : MH) (hK : F_X12_does_84  h = some hz) : V 84 [] [] h := by
  unfold F_X12_does_84 at hK
  cases hK
  exact mm_vret C (pc := 84) rfl dX12_does_84 rfl rfl
def F_X12_does (a0 : Option Nat) (a1 : Int32) (h : MH) : Option MH := if a1 = ((-1) : Int32) then ((cV h a0 12 (F_X12_minute a0 h)).bind fun h6 => F_X12_does_84 h6) else (if (100 : Int32) ≤ a1 then (if (200 : Int32) ≤ a1 then ((gR h a0 12 0).bind fun v71 => (sI h v71 0 (((8 : Int32) + a1) - (200 : Int32)) (2 : Int32)).bind fun h83 => F_X12_does_84 h83) else ((gR h a0 12 0).bind fun v52 => (aI h v52 0 (46 : Int32)).bind fun v58 => (sI h v52 0 (46 : Int32) (v58 ^^^ ((1 : Int32) <<< ((a1 - (100 : Int32)) &&& 31)))).bind fun h66 => F_X12_does_84 h66)) else ((gR h a0 12 0).bind fun v19 => (gR h a0 12 0).bind fun v31 => (aI h v31 0 (47 : Int32)).bind fun v36 => (F_X12_laysCall v19 (a1 / (10 : Int32)) (a1 - a1 / (10 : Int32) * (10 : Int32)) v36 (5 : Int32) h).bind fun h38 => F_X12_does_84 h38))
set_option maxRecDepth 20000 in
set_option maxHeartbeats 4000000 in
theorem S_X12_does {d : Nat} (hd : 8 ≤ d) {a0 : Option Nat} {a1 : Int32} {h : MH} {hz : MH} (hK : F_X12_does a0 a1 h = some hz) : mm_M yX12_does cX12_does 2 none d [va_rf a0, .int a1] h (.inr none) hz := by
  refine mm_ofV (by decide +kernel) (by simp [lg_sl, mm_crf, mm_cti, mm_ctl]) (fun V C => ?_)
  rw [show lv_args 0 [va_rf a0, .int a1] = [(0, va_rf a0), (1, .int a1)] by simp [lv_args, mm_crf, mm_cti, mm_ctl]]
  unfold F_X12_does at hK
  refine mm_iload_n C (pc := 0) 1 dX12_does_0 rfl ?_
  refine mm_iconst C (pc := 1) (v := ((-1) : Int32)) dX12_does_1 (by decide) ?_
  refine mm_icmp_ne C (pc := 2) (tgt := 12) dX12_does_2 (by decide) (fun hc => ?_) (fun hc => ?_)
  · replace hK := mm_in hc hK
    refine mm_iload_n C (pc := 12) 1 dX12_does_12 rfl ?_
    refine mm_bipush C (pc := 13) (v := (100 : Int32)) dX12_does_13 (by decide) ?_
    refine mm_icmp_ge C (pc := 15) (tgt := 44) dX12_does_15 (by decide) (fun hc => ?_) (fun hc => ?_)
    · replace hK := mm_ip hc hK
      refine mm_iload_n C (pc := 44) 1 dX12_does_44 rfl ?_
      refine mm_sipush C (pc := 45) (v := (200 : Int32)) dX12_does_45 (by decide) ?_
      refine mm_icmp_ge C (pc := 48) (tgt := 70) dX12_does_48 (by decide) (fun hc => ?_) (fun hc => ?_)
      · replace hK := mm_ip hc hK
        refine mm_aload_n C (pc := 70) 0 dX12_does_70 rfl ?_
        replace hK := mm_bd hK; obtain ⟨v71, e71, hK⟩ := hK
        refine mm_getr C (pc := 71) (k := 0) inGX12 rfl (by decide) wd_1999 dX12_does_71 e71 ?_
        refine mm_bipush C (pc := 74) (v := (8 : Int32)) dX12_does_74 (by decide) ?_
        refine mm_iload_n C (pc := 76) 1 dX12_does_76 rfl ?_
        refine mm_iadd C (pc := 77) dX12_does_77 ?_
        refine mm_sipush C (pc := 78) (v := (200 : Int32)) dX12_does_78 (by decide) ?_
        refine mm_isub C (pc := 81) dX12_does_81 ?_
        refine mm_iconst C (pc := 82) (v := (2 : Int32)) dX12_does_82 (by decide) ?_
        replace hK := mm_bd hK; obtain ⟨h83, e83, hK⟩ := hK
        refine mm_iast C (pc := 83) dX12_does_83 e83 ?_
        refine mm_sub C [] rfl ?_
        exact w_X12_does_84 hd C _ hK
      · replace hK := mm_in hc hK
        refine mm_aload_n C (pc := 51) 0 dX12_does_51 rfl ?_
        replace hK := mm_bd hK; obtain ⟨v52, e52, hK⟩ := hK
        refine mm_getr C (pc := 52) (k := 0) inGX12 rfl (by decide) wd_1999 dX12_does_52 e52 ?_
        refine mm_bipush C (pc := 55) (v := (46 : Int32)) dX12_does_55 (by decide) ?_
        refine mm_dup2 C (pc := 57) dX12_does_57 rfl mm_crf ?_
        replace hK := mm_bd hK; obtain ⟨v58, e58, hK⟩ := hK
        refine mm_iald C (pc := 58) dX12_does_58 e58 ?_
        refine mm_iconst C (pc := 59) (v := (1 : Int32)) dX12_does_59 (by decide) ?_
        refine mm_iload_n C (pc := 60) 1 dX12_does_60 rfl ?_
        refine mm_bipush C (pc := 61) (v := (100 : Int32)) dX12_does_61 (by decide) ?_
        refine mm_isub C (pc := 63) dX12_does_63 ?_
        refine mm_ishl C (pc := 64) dX12_does_64 ?_
        refine mm_ixor C (pc := 65) dX12_does_65 ?_
        replace hK := mm_bd hK; obtain ⟨h66, e66, hK⟩ := hK
        refine mm_iast C (pc := 66) dX12_does_66 e66 ?_
        refine mm_goto C (pc := 67) (tgt := 84) dX12_does_67 (by decide) ?_
        refine mm_sub C [] rfl ?_
        exact w_X12_does_84 hd C _ hK
    · replace hK := mm_in hc hK
      refine mm_aload_n C (pc := 18) 0 dX12_does_18 rfl ?_
      replace hK := mm_bd hK; obtain ⟨v19, e19, hK⟩ := hK
      refine mm_getr C (pc := 19) (k := 0) inGX12 rfl (by decide) wd_1999 dX12_does_19 e19 ?_
      refine mm_iload_n C (pc := 22) 1 dX12_does_22 rfl ?_
      refine mm_bipush C (pc := 23) (v := (10 : Int32)) dX12_does_23 (by decide) ?_
      refine mm_idiv C (pc := 25) dX12_does_25 (by decide) ?_
      refine mm_iload_n C (pc := 26) 1 dX12_does_26 rfl ?_
      refine mm_bipush C (pc := 27) (v := (10 : Int32)) dX12_does_27 (by decide) ?_
      refine mm_irem C (pc := 29) dX12_does_29 (by decide) ?_
      refine mm_aload_n C (pc := 30) 0 dX12_does_30 rfl ?_
      replace hK := mm_bd hK; obtain ⟨v31, e31, hK⟩ := hK
      refine mm_getr C (pc := 31) (k := 0) inGX12 rfl (by decide) wd_1999 dX12_does_31 e31 ?_
      refine mm_bipush C (pc := 34) (v := (47 : Int32)) dX12_does_34 (by decide) ?_
      replace hK := mm_bd hK; obtain ⟨v36, e36, hK⟩ := hK
      refine mm_iald C (pc := 36) dX12_does_36 e36 ?_
      refine mm_iconst C (pc := 37) (v := (5 : Int32)) dX12_does_37 (by decide) ?_
      replace hK := mm_bd hK; obtain ⟨h38, e38, hK⟩ := hK
      refine mm_callS C (pc := 38) (d1 := 1) (As := [va_rf v19, .int (a1 / (10 : Int32)), .int (a1 - a1 / (10 : Int32) * (10 : Int32)), .int v36, .int (5 : Int32)]) (st := []) (vk := none) ((S_X12_laysCall (by omega)) e38) tT_X12_laysCall wd_2237 wd_2238 (by omega) (by decide) rfl (by simp [mm_crf, mm_cti, mm_ctl]) rfl dX12_does_38 ?_
      show V _ _ [] _
      refine mm_goto C (pc := 41) (tgt := 84) dX12_does_41 (by decide) ?_
      refine mm_sub C [] rfl ?_
      exact w_X12_does_84 hd C _ hK
  · replace hK := mm_ip hc hK
    refine mm_aload_n C (pc := 5) 0 dX12_does_5 rfl ?_
    replace hK := mm_bd hK; obtain ⟨h6, e6, hK⟩ := hK
    obtain ⟨o6, e6⟩ := cV_some e6
    refine mm_callV C (pc := 6) (d1 := 7) (As := []) (st := []) (vk := none) ((S_X12_minute (by omega)) e6) tT_X12_minute o6 (Or.inr ⟨_, rfl, rfl⟩) wd_2408 wd_2410 wd_100 (by omega) (by decide) rfl (by simp [mm_crf, mm_cti, mm_ctl]) rfl dX12_does_6 ?_
    show V _ _ [] _
    refine mm_goto C (pc := 9) (tgt := 84) dX12_does_9 (by decide) ?_
    refine mm_sub C [] rfl ?_
    exact w_X12_does_84 hd C _ hK
def F_X12_callsThat_31 (k4 : Option Nat → Int32 → Int32 → Int32 → MH → Option (Int32 × MH)) (l0 : Option Nat) (l1 : Int32) (l3 : Int32) (s0 : Int32) (s1 : Int32) (h : MH) : Option (Int32 × MH) := k4 l0 l1 (s1 + s0) (l3 + (1 : Int32)) h
set_option maxRecDepth 20000 in
set_option maxHeartbeats 4000000 in
theorem w_X12_callsThat_31 {d : Nat} {V : Nat → List (Nat × Value) → List Value → MH → Prop} {r : Int32} {hz : MH} {k4 : Option Nat → Int32 → Int32 → Int32 → MH → Option (Int32 × MH)} (hd : 2 ≤ d) (C : mm_C d yX12_callsThat cX12_callsThat 4 (some .int) (.inr (some (.int r))) hz V) (q4 : ∀ (x0 : Option Nat) (x1 : Int32) (x2 : Int32) (x3 : Int32) (h : MH), k4 x0 x1 x2 x3 h = some (r, hz) → V 4 [(0, va_rf x0), (1, .int x1), (2, .int x2), (3, .int x3)] [] h) (l0 : Option Nat) (l1 : Int32) (l3 : Int32) (s0 : Int32) (s1 : Int32) (h : MH) (hK : F_X12_callsThat_31 k4 l0 l1 l3 s0 s1 h = some (r, hz)) : V 31 [(0, va_rf l0), (1, .int l1), (3, .int l3)] [.int s0, .int s1] h := by
  unfold F_X12_callsThat_31 at hK
  refine mm_iadd C (pc := 31) dX12_callsThat_31 ?_
  refine mm_istore_n C (pc := 32) (i := 2) (lv' := [(2, .int (s1 + s0)), (0, va_rf l0), (1, .int l1), (3, .int l3)]) dX12_callsThat_32 rfl (by decide) rfl ?_
  refine mm_iinc C (pc := 33) (v := (l3 + (1 : Int32))) (lv' := [(3, .int (l3 + (1 : Int32))), (2, .int (s1 + s0)), (0, va_rf l0), (1, .int l1)]) 3 dX12_callsThat_33 rfl rfl (by decide) rfl ?_
  refine mm_goto C (pc := 36) (tgt := 4) dX12_callsThat_36 (by decide) ?_
  refine mm_sub C [2, 3, 1, 0] rfl ?_
  exact q4 _ _ _ _ _ hK
def F_X12_callsThat_4 : Nat → Option Nat → Int32 → Int32 → Int32 → MH → Option (Int32 × MH)
  | 0 => fun _ _ _ _ _ => none
  | n + 1 => fun l0 l1 l2 l3 h => mm_b2 (cV h l0 12 (F_X12_calls l0 h)) fun v6 h6 => if v6 ≤ l3 then (some (l2, h6)) else ((gR h6 l0 12 0).bind fun v14 => (aI h6 v14 0 ((8 : Int32) + l3)).bind fun v21 => if v21 = l1 then (F_X12_callsThat_31 (F_X12_callsThat_4 n) l0 l1 l3 (1 : Int32) l2 h6) else (F_X12_callsThat_31 (F_X12_callsThat_4 n) l0 l1 l3 (0 : Int32) l2 h6))
set_option maxRecDepth 20000 in
set_option maxHeartbeats 4000000 in
theorem w_X12_callsThat_4 {d : Nat} {V : Nat → List (Nat × Value) → List Value → MH → Prop} {r : Int32} {hz : MH} (hd : 2 ≤ d) (C : mm_C d yX12_callsThat cX12_callsThat 4 (some .int) (.inr (some (.int r))) hz V) : ∀ (n : Nat) (l0 : Option Nat) (l1 : Int32) (l2 : Int32) (l3 : Int32) (h : MH), F_X12_callsThat_4 n l0 l1 l2 l3 h = some (r, hz) → V 4 [(0, va_rf l0), (1, .int l1), (2, .int l2), (3, .int l3)] [] h := by
  intro n
  induction n with
  | zero => intro l0 l1 l2 l3 h hK; cases hK
  | succ n ih =>
    intro l0 l1 l2 l3 h hK
    replace hK : (mm_b2 (cV h l0 12 (F_X12_calls l0 h)) fun v6 h6 => if v6 ≤ l3 then (some (l2, h6)) else ((gR h6 l0 12 0).bind fun v14 => (aI h6 v14 0 ((8 : Int32) + l3)).bind fun v21 => if v21 = l1 then (F_X12_callsThat_31 (F_X12_callsThat_4 n) l0 l1 l3 (1 : Int32) l2 h6) else (F_X12_callsThat_31 (F_X12_callsThat_4 n) l0 l1 l3 (0 : Int32) l2 h6))) = some (r, hz) := hK
    refine mm_iload_n C (pc := 4) 3 dX12_callsThat_4 rfl ?_
    refine mm_aload_n C (pc := 5) 0 dX12_callsThat_5 rfl ?_
    replace hK := mm_b2s hK; obtain ⟨v6, h6, e6, hK⟩ := hK
    obtain ⟨o6, e6⟩ := cV_some e6
    refine mm_callV C (pc := 6) (d1 := 1) (As := []) (st := [.int l3]) (vk := (some (.int v6))) ((S_X12_calls (by omega)) e6) tT_X12_calls o6 (Or.inr ⟨_, rfl, rfl⟩) wd_2295 wd_2297 wd_87 (by omega) (by decide) rfl (by simp [mm_crf, mm_cti, mm_ctl]) rfl dX12_callsThat_6 ?_
    show V _ _ (.int v6 :: _) _
    refine mm_icmp_ge C (pc := 9) (tgt := 39) dX12_callsThat_9 (by decide) (fun hc => ?_) (fun hc => ?_)
    · replace hK := mm_ip hc hK
      refine mm_iload_n C (pc := 39) 2 dX12_callsThat_39 rfl ?_
      cases hK
      exact mm_iret C (pc := 40) rfl dX12_callsThat_40 rfl rfl
    · replace hK := mm_in hc hK
      refine mm_iload_n C (pc := 12) 2 dX12_callsThat_12 rfl ?_
      refine mm_aload_n C (pc := 13) 0 dX12_callsThat_13 rfl ?_
      replace hK := mm_bd hK; obtain ⟨v14, e14, hK⟩ := hK
      refine mm_getr C (pc := 14) (k := 0) inGX12 rfl (by decide) wd_1999 dX12_callsThat_14 e14 ?_
      refine mm_bipush C (pc := 17) (v := (8 : Int32)) dX12_callsThat_17 (by decide) ?_
      refine mm_iload_n C (pc := 19) 3 dX12_callsThat_19 rfl ?_
      refine mm_iadd C (pc := 20) dX12_callsThat_20 ?_
      replace hK := mm_bd hK; obtain ⟨v21, e21, hK⟩ := hK
      refine mm_iald C (pc := 21) dX12_callsThat_21 e21 ?_
      refine mm_iload_n C (pc := 22) 1 dX12_callsThat_22 rfl ?_
      refine mm_icmp_ne C (pc := 23) (tgt := 30) dX12_callsThat_23 (by decide) (fun hc => ?_) (fun hc => ?_)
      · replace hK := mm_in hc hK
        refine mm_iconst C (pc := 30) (v := (0 : Int32)) dX12_callsThat_30 (by decide) ?_
        refine mm_sub C [0, 1, 3] rfl ?_
        exact w_X12_callsThat_31 hd C (fun z0 z1 z2 z3 z4 hK => ih z0 z1 z2 z3 z4 hK) _ _ _ _ _ _ hK
      · replace hK := mm_ip hc hK
        refine mm_iconst C (pc := 26) (v := (1 : Int32)) dX12_callsThat_26 (by decide) ?_
        refine mm_goto C (pc := 27) (tgt := 31) dX12_callsThat_27 (by decide) ?_
        refine mm_sub C [0, 1, 3] rfl ?_
        exact w_X12_callsThat_31 hd C (fun z0 z1 z2 z3 z4 hK => ih z0 z1 z2 z3 z4 hK) _ _ _ _ _ _ hK
def F_X12_callsThat (a0 : Option Nat) (a1 : Int32) (h : MH) : Option (Int32 × MH) := F_X12_callsThat_4 mm_N a0 a1 (0 : Int32) (0 : Int32) h
set_option maxRecDepth 20000 in
set_option maxHeartbeats 4000000 in
theorem S_X12_callsThat {d : Nat} (hd : 2 ≤ d) {a0 : Option Nat} {a1 : Int32} {h : MH} {r : Int32} {hz : MH} (hK : F_X12_callsThat a0 a1 h = some (r, hz)) : mm_M yX12_callsThat cX12_callsThat 4 (some .int) d [va_rf a0, .int a1] h (.inr (some (.int r))) hz := by
  refine mm_ofV (by decide +kernel) (by simp [lg_sl, mm_crf, mm_cti, mm_ctl]) (fun V C => ?_)
  rw [show lv_args 0 [va_rf a0, .int a1] = [(0, va_rf a0), (1, .int a1)] by simp [lv_args, mm_crf, mm_cti, mm_ctl]]
  unfold F_X12_callsThat at hK
  refine mm_iconst C (pc := 0) (v := (0 : Int32)) dX12_callsThat_0 (by decide) ?_
  refine mm_istore_n C (pc := 1) (i := 2) (lv' := [(2, .int (0 : Int32)), (0, va_rf a0), (1, .int a1)]) dX12_callsThat_1 rfl (by decide) rfl ?_
  refine mm_iconst C (pc := 2) (v := (0 : Int32)) dX12_callsThat_2 (by decide) ?_
  refine mm_istore_n C (pc := 3) (i := 3) (lv' := [(3, .int (0 : Int32)), (2, .int (0 : Int32)), (0, va_rf a0), (1, .int a1)]) dX12_callsThat_3 rfl (by decide) rfl ?_
  refine mm_sub C [2, 3, 1, 0] rfl ?_
  exact w_X12_callsThat_4 hd C _ _ _ _ _ _ hK
def F_X12_twosWed_33 (k4 : Option Nat → Int32 → Int32 → MH → Option (Int32 × MH)) (l0 : Option Nat) (l2 : Int32) (s0 : Int32) (s1 : Int32) (h : MH) : Option (Int32 × MH) := k4 l0 (s1 + s0) (l2 + (1 : Int32)) h
set_option maxRecDepth 20000 in
set_option maxHeartbeats 4000000 in
theorem w_X12_twosWed_33 {d : Nat} {V : Nat → List (Nat × Value) → List Value → MH → Prop} {r : Int32} {hz : MH} {k4 : Option Nat → Int32 → Int32 → MH → Option (Int32 × MH)} (hd : 1 ≤ d) (C : mm_C d yX12_twosWed cX12_twosWed 3 (some .int) (.inr (some (.int r))) hz V) (q4 : ∀ (x0 : Option Nat) (x1 : Int32) (x2 : Int32) (h : MH), k4 x0 x1 x2 h = some (r, hz) → V 4 [(0, va_rf x0), (1, .int x1), (2, .int x2)] [] h) (l0 : Option Nat) (l2 : Int32) (s0 : Int32) (s1 : Int32) (h : MH) (hK : F_X12_twosWed_33 k4 l0 l2 s0 s1 h = some (r, hz)) : V 33 [(0, va_rf l0), (2, .int l2)] [.int s0, .int s1] h := by
  unfold F_X12_twosWed_33 at hK
  refine mm_iadd C (pc := 33) dX12_twosWed_33 ?_
  refine mm_istore_n C (pc := 34) (i := 1) (lv' := [(1, .int (s1 + s0)), (0, va_rf l0), (2, .int l2)]) dX12_twosWed_34 rfl (by decide) (by simp [mm_crf]) ?_
  refine mm_iinc C (pc := 35) (v := (l2 + (1 : Int32))) (lv' := [(2, .int (l2 + (1 : Int32))), (1, .int (s1 + s0)), (0, va_rf l0)]) 2 dX12_twosWed_35 rfl rfl (by decide) rfl ?_
  refine mm_goto C (pc := 38) (tgt := 4) dX12_twosWed_38 (by decide) ?_
  refine mm_sub C [2, 1, 0] rfl ?_
  exact q4 _ _ _ _ hK
def F_X12_twosWed_4 : Nat → Option Nat → Int32 → Int32 → MH → Option (Int32 × MH)
  | 0 => fun _ _ _ _ => none
  | n + 1 => fun l0 l1 l2 h => (gR h l0 12 0).bind fun v6 => (aI h v6 0 (1 : Int32)).bind fun v10 => if v10 ≤ l2 then (some (l1, h)) else ((gR h l0 12 0).bind fun v16 => (aI h v16 0 ((38 : Int32) + l2)).bind fun v23 => if v23 ≤ l2 then (F_X12_twosWed_33 (F_X12_twosWed_4 n) l0 l2 (0 : Int32) l1 h) else (F_X12_twosWed_33 (F_X12_twosWed_4 n) l0 l2 (1 : Int32) l1 h))
set_option maxRecDepth 20000 in
set_option maxHeartbeats 4000000 in
theorem w_X12_twosWed_4 {d : Nat} {V : Nat → List (Nat × Value) → List Value → MH → Prop} {r : Int32} {hz : MH} (hd : 1 ≤ d) (C : mm_C d yX12_twosWed cX12_twosWed 3 (some .int) (.inr (some (.int r))) hz V) : ∀ (n : Nat) (l0 : Option Nat) (l1 : Int32) (l2 : Int32) (h : MH), F_X12_twosWed_4 n l0 l1 l2 h = some (r, hz) → V 4 [(0, va_rf l0), (1, .int l1), (2, .int l2)] [] h := by
  intro n
  induction n with
  | zero => intro l0 l1 l2 h hK; cases hK
  | succ n ih =>
    intro l0 l1 l2 h hK
    replace hK : ((gR h l0 12 0).bind fun v6 => (aI h v6 0 (1 : Int32)).bind fun v10 => if v10 ≤ l2 then (some (l1, h)) else ((gR h l0 12 0).bind fun v16 => (aI h v16 0 ((38 : Int32) + l2)).bind fun v23 => if v23 ≤ l2 then (F_X12_twosWed_33 (F_X12_twosWed_4 n) l0 l2 (0 : Int32) l1 h) else (F_X12_twosWed_33 (F_X12_twosWed_4 n) l0 l2 (1 : Int32) l1 h))) = some (r, hz) := hK
    refine mm_iload_n C (pc := 4) 2 dX12_twosWed_4 rfl ?_
    refine mm_aload_n C (pc := 5) 0 dX12_twosWed_5 rfl ?_
    replace hK := mm_bd hK; obtain ⟨v6, e6, hK⟩ := hK
    refine mm_getr C (pc := 6) (k := 0) inGX12 rfl (by decide) wd_1999 dX12_twosWed_6 e6 ?_
    refine mm_iconst C (pc := 9) (v := (1 : Int32)) dX12_twosWed_9 (by decide) ?_
    replace hK := mm_bd hK; obtain ⟨v10, e10, hK⟩ := hK
    refine mm_iald C (pc := 10) dX12_twosWed_10 e10 ?_
    refine mm_icmp_ge C (pc := 11) (tgt := 41) dX12_twosWed_11 (by decide) (fun hc => ?_) (fun hc => ?_)
    · replace hK := mm_ip hc hK
      refine mm_iload_n C (pc := 41) 1 dX12_twosWed_41 rfl ?_
      cases hK
      exact mm_iret C (pc := 42) rfl dX12_twosWed_42 rfl rfl
    · replace hK := mm_in hc hK
      refine mm_iload_n C (pc := 14) 1 dX12_twosWed_14 rfl ?_
      refine mm_aload_n C (pc := 15) 0 dX12_twosWed_15 rfl ?_
      replace hK := mm_bd hK; obtain ⟨v16, e16, hK⟩ := hK
      refine mm_getr C (pc := 16) (k := 0) inGX12 rfl (by decide) wd_1999 dX12_twosWed_16 e16 ?_
      refine mm_bipush C (pc := 19) (v := (38 : Int32)) dX12_twosWed_19 (by decide) ?_
      refine mm_iload_n C (pc := 21) 2 dX12_twosWed_21 rfl ?_
      refine mm_iadd C (pc := 22) dX12_twosWed_22 ?_
      replace hK := mm_bd hK; obtain ⟨v23, e23, hK⟩ := hK
      refine mm_iald C (pc := 23) dX12_twosWed_23 e23 ?_
      refine mm_iload_n C (pc := 24) 2 dX12_twosWed_24 rfl ?_
      refine mm_icmp_le C (pc := 25) (tgt := 32) dX12_twosWed_25 (by decide) (fun hc => ?_) (fun hc => ?_)
      · replace hK := mm_ip hc hK
        refine mm_iconst C (pc := 32) (v := (0 : Int32)) dX12_twosWed_32 (by decide) ?_
        refine mm_sub C [0, 2] rfl ?_
        exact w_X12_twosWed_33 hd C (fun z0 z1 z2 z3 hK => ih z0 z1 z2 z3 hK) _ _ _ _ _ hK
      · replace hK := mm_in hc hK
        refine mm_iconst C (pc := 28) (v := (1 : Int32)) dX12_twosWed_28 (by decide) ?_
        refine mm_goto C (pc := 29) (tgt := 33) dX12_twosWed_29 (by decide) ?_
        refine mm_sub C [0, 2] rfl ?_
        exact w_X12_twosWed_33 hd C (fun z0 z1 z2 z3 hK => ih z0 z1 z2 z3 hK) _ _ _ _ _ hK
def F_X12_twosWed (a0 : Option Nat) (h : MH) : Option (Int32 × MH) := F_X12_twosWed_4 mm_N a0 (0 : Int32) (0 : Int32) h
set_option maxRecDepth 20000 in
set_option maxHeartbeats 4000000 in
theorem S_X12_twosWed {d : Nat} (hd : 1 ≤ d) {a0 : Option Nat} {h : MH} {r : Int32} {hz : MH} (hK : F_X12_twosWed a0 h = some (r, hz)) : mm_M yX12_twosWed cX12_twosWed 3 (some .int) d [va_rf a0] h (.inr (some (.int r))) hz := by
  refine mm_ofV (by decide +kernel) (by simp [lg_sl, mm_crf, mm_cti, mm_ctl]) (fun V C => ?_)
  rw [show lv_args 0 [va_rf a0] = [(0, va_rf a0)] by simp [lv_args, mm_crf, mm_cti, mm_ctl]]
  unfold F_X12_twosWed at hK
  refine mm_iconst C (pc := 0) (v := (0 : Int32)) dX12_twosWed_0 (by decide) ?_
  refine mm_istore_n C (pc := 1) (i := 1) (lv' := [(1, .int (0 : Int32)), (0, va_rf a0)]) dX12_twosWed_1 rfl (by decide) (by simp [mm_crf]) ?_
  refine mm_iconst C (pc := 2) (v := (0 : Int32)) dX12_twosWed_2 (by decide) ?_
  refine mm_istore_n C (pc := 3) (i := 2) (lv' := [(2, .int (0 : Int32)), (1, .int (0 : Int32)), (0, va_rf a0)]) dX12_twosWed_3 rfl (by decide) rfl ?_
  refine mm_sub C [2, 1, 0] rfl ?_
  exact w_X12_twosWed_4 hd C _ _ _ _ _ hK
theorem wd_2439 : Cond.code yX12_trayFault cX12_trayFault 2 (some .int) ∈ lw_good := mm_wd 2439 (by decide +kernel) (by decide +kernel)
theorem tT_X12_trayFault : mm_T yX12_trayFault cX12_trayFault 2 (some .int) 1 := ⟨wd_2439, wd_170, by decide +kernel, by decide +kernel, by decide +kernel, by decide +kernel⟩
theorem wd_2436 : Cond.methodLink RX12 373 yX12_trayFault ∈ lw_good := mm_wd 2436 (by decide +kernel) (by decide +kernel)
theorem wd_2438 : Cond.instanceMethod yX12_trayFault ∈ lw_good := mm_wd 2438 (by decide +kernel) (by decide +kernel)
theorem wd_104 : Cond.selects RX12 yX12_trayFault yX12_trayFault ∈ lw_good := mm_wd 104 (by decide +kernel) (by decide +kernel)
theorem wd_2447 : Cond.code yX12_putsAside cX12_putsAside 2 none ∈ lw_good := mm_wd 2447 (by decide +kernel) (by decide +kernel)
theorem tT_X12_putsAside : mm_T yX12_putsAside cX12_putsAside 2 none 0 := ⟨wd_2447, wd_170, by decide +kernel, by decide +kernel, by decide +kernel, by decide +kernel⟩
theorem wd_2444 : Cond.methodLink RX12 378 yX12_putsAside ∈ lw_good := mm_wd 2444 (by decide +kernel) (by decide +kernel)
theorem wd_2446 : Cond.instanceMethod yX12_putsAside ∈ lw_good := mm_wd 2446 (by decide +kernel) (by decide +kernel)
theorem wd_105 : Cond.selects RX12 yX12_putsAside yX12_putsAside ∈ lw_good := mm_wd 105 (by decide +kernel) (by decide +kernel)
theorem wd_2464 : Cond.code yX12_callsThat cX12_callsThat 4 (some .int) ∈ lw_good := mm_wd 2464 (by decide +kernel) (by decide +kernel)
theorem tT_X12_callsThat : mm_T yX12_callsThat cX12_callsThat 4 (some .int) 1 := ⟨wd_2464, wd_170, by decide +kernel, by decide +kernel, by decide +kernel, by decide +kernel⟩
theorem wd_2461 : Cond.methodLink RX12 387 yX12_callsThat ∈ lw_good := mm_wd 2461 (by decide +kernel) (by decide +kernel)
theorem wd_2463 : Cond.instanceMethod yX12_callsThat ∈ lw_good := mm_wd 2463 (by decide +kernel) (by decide +kernel)
theorem wd_108 : Cond.selects RX12 yX12_callsThat yX12_callsThat ∈ lw_good := mm_wd 108 (by decide +kernel) (by decide +kernel)
theorem wd_2468 : Cond.code yX12_twosWed cX12_twosWed 3 (some .int) ∈ lw_good := mm_wd 2468 (by decide +kernel) (by decide +kernel)
theorem tT_X12_twosWed : mm_T yX12_twosWed cX12_twosWed 3 (some .int) 0 := ⟨wd_2468, wd_170, by decide +kernel, by decide +kernel, by decide +kernel, by decide +kernel⟩
theorem wd_2465 : Cond.methodLink RX12 390 yX12_twosWed ∈ lw_good := mm_wd 2465 (by decide +kernel) (by decide +kernel)
theorem wd_2467 : Cond.instanceMethod yX12_twosWed ∈ lw_good := mm_wd 2467 (by decide +kernel) (by decide +kernel)
theorem wd_109 : Cond.selects RX12 yX12_twosWed yX12_twosWed ∈ lw_good := mm_wd 109 (by decide +kernel) (by decide +kernel)
theorem wd_2472 : Cond.code yX12_putsBack cX12_putsBack 2 none ∈ lw_good := mm_wd 2472 (by decide +kernel) (by decide +kernel)
theorem tT_X12_putsBack : mm_T yX12_putsBack cX12_putsBack 2 none 0 := ⟨wd_2472, wd_170, by decide +kernel, by decide +kernel, by decide +kernel, by decide +kernel⟩
theorem wd_2469 : Cond.methodLink RX12 393 yX12_putsBack ∈ lw_good := mm_wd 2469 (by decide +kernel) (by decide +kernel)
theorem wd_2471 : Cond.instanceMethod yX12_putsBack ∈ lw_good := mm_wd 2471 (by decide +kernel) (by decide +kernel)
theorem wd_110 : Cond.selects RX12 yX12_putsBack yX12_putsBack ∈ lw_good := mm_wd 110 (by decide +kernel) (by decide +kernel)
theorem wd_2451 : Cond.code yX12_whyTold cX12_whyTold 3 (some .int) ∈ lw_good := mm_wd 2451 (by decide +kernel) (by decide +kernel)
theorem tT_X12_whyTold : mm_T yX12_whyTold cX12_whyTold 3 (some .int) 1 := ⟨wd_2451, wd_170, by decide +kernel, by decide +kernel, by decide +kernel, by decide +kernel⟩
theorem wd_2448 : Cond.methodLink RX12 381 yX12_whyTold ∈ lw_good := mm_wd 2448 (by decide +kernel) (by decide +kernel)
theorem wd_2450 : Cond.instanceMethod yX12_whyTold ∈ lw_good := mm_wd 2450 (by decide +kernel) (by decide +kernel)
theorem wd_106 : Cond.selects RX12 yX12_whyTold yX12_whyTold ∈ lw_good := mm_wd 106 (by decide +kernel) (by decide +kernel)
theorem wd_2460 : Cond.code yX12_does cX12_does 2 none ∈ lw_good := mm_wd 2460 (by decide +kernel) (by decide +kernel)
theorem tT_X12_does : mm_T yX12_does cX12_does 2 none 1 := ⟨wd_2460, wd_170, by decide +kernel, by decide +kernel, by decide +kernel, by decide +kernel⟩
theorem wd_2457 : Cond.methodLink RX12 384 yX12_does ∈ lw_good := mm_wd 2457 (by decide +kernel) (by decide +kernel)
theorem wd_2459 : Cond.instanceMethod yX12_does ∈ lw_good := mm_wd 2459 (by decide +kernel) (by decide +kernel)
theorem wd_107 : Cond.selects RX12 yX12_does yX12_does ∈ lw_good := mm_wd 107 (by decide +kernel) (by decide +kernel)
def F_X12_judge_231 (s0 : Int32) (h : MH) : Option (Int32 × MH) := some (s0, h)
set_option maxRecDepth 20000 in
set_option maxHeartbeats 4000000 in
theorem w_X12_judge_231 {d : Nat} {V : Nat → List (Nat × Value) → List Value → MH → Prop} {r : Int32} {hz : MH} (hd : 9 ≤ d) (C : mm_C d yX12_judge cX12_judge 8 (some .int) (.inr (some (.int r))) hz V) (s0 : Int32) (h : MH) (hK : F_X12_judge_231 s0 h = some (r, hz)) : V 231 [] [.int s0] h := by
  unfold F_X12_judge_231 at hK
  cases hK
  exact mm_iret C (pc := 231) rfl dX12_judge_231 rfl rfl
def F_X12_judge_171 : Nat → Option Nat → Int32 → Int32 → Int32 → Int32 → Int32 → Int32 → MH → Option (Int32 × MH)
  | 0 => fun _ _ _ _ _ _ _ _ => none
  | n + 1 => fun l0 l2 l3 l4 l5 l6 l7 h => if (40 : Int32) ≤ l7 then (if l2 = 0 then (F_X12_judge_231 l3 h) else (if l2 = (1 : Int32) then (F_X12_judge_231 l4 h) else (if l2 = (2 : Int32) then (F_X12_judge_231 l5 h) else (F_X12_judge_231 l6 h)))) else ((gR h l0 12 0).bind fun v179 => (gR h l0 12 24).bind fun v188 => (aI h v188 0 l7).bind fun v193 => (sI h v179 0 ((51 : Int32) + l7) v193).bind fun h194 => F_X12_judge_171 n l0 l2 l3 l4 l5 l6 (l7 + (1 : Int32)) h194)
set_option maxRecDepth 20000 in
set_option maxHeartbeats 4000000 in
theorem w_X12_judge_171 {d : Nat} {V : Nat → List (Nat × Value) → List Value → MH → Prop} {r : Int32} {hz : MH} (hd : 9 ≤ d) (C : mm_C d yX12_judge cX12_judge 8 (some .int) (.inr (some (.int r))) hz V) : ∀ (n : Nat) (l0 : Option Nat) (l2 : Int32) (l3 : Int32) (l4 : Int32) (l5 : Int32) (l6 : Int32) (l7 : Int32) (h : MH), F_X12_judge_171 n l0 l2 l3 l4 l5 l6 l7 h = some (r, hz) → V 171 [(0, va_rf l0), (2, .int l2), (3, .int l3), (4, .int l4), (5, .int l5), (6, .int l6), (7, .int l7)] [] h := by
  intro n
  induction n with
  | zero => intro l0 l2 l3 l4 l5 l6 l7 h hK; cases hK
  | succ n ih =>
    intro l0 l2 l3 l4 l5 l6 l7 h hK
    replace hK : (if (40 : Int32) ≤ l7 then (if l2 = 0 then (F_X12_judge_231 l3 h) else (if l2 = (1 : Int32) then (F_X12_judge_231 l4 h) else (if l2 = (2 : Int32) then (F_X12_judge_231 l5 h) else (F_X12_judge_231 l6 h)))) else ((gR h l0 12 0).bind fun v179 => (gR h l0 12 24).bind fun v188 => (aI h v188 0 l7).bind fun v193 => (sI h v179 0 ((51 : Int32) + l7) v193).bind fun h194 => F_X12_judge_171 n l0 l2 l3 l4 l5 l6 (l7 + (1 : Int32)) h194)) = some (r, hz) := hK
    refine mm_iload C (pc := 171) 6 dX12_judge_171 rfl ?_
    refine mm_bipush C (pc := 173) (v := (40 : Int32)) dX12_judge_173 (by decide) ?_
    refine mm_icmp_ge C (pc := 175) (tgt := 201) dX12_judge_175 (by decide) (fun hc => ?_) (fun hc => ?_)
    · replace hK := mm_ip hc hK
      refine mm_iload_n C (pc := 201) 1 dX12_judge_201 rfl ?_
      refine mm_if_ne C (pc := 202) (tgt := 209) dX12_judge_202 (by decide) (fun hc => ?_) (fun hc => ?_)
      · replace hK := mm_in hc hK
        refine mm_iload_n C (pc := 209) 1 dX12_judge_209 rfl ?_
        refine mm_iconst C (pc := 210) (v := (1 : Int32)) dX12_judge_210 (by decide) ?_
        refine mm_icmp_ne C (pc := 211) (tgt := 219) dX12_judge_211 (by decide) (fun hc => ?_) (fun hc => ?_)
        · replace hK := mm_in hc hK
          refine mm_iload_n C (pc := 219) 1 dX12_judge_219 rfl ?_
          refine mm_iconst C (pc := 220) (v := (2 : Int32)) dX12_judge_220 (by decide) ?_
          refine mm_icmp_ne C (pc := 221) (tgt := 229) dX12_judge_221 (by decide) (fun hc => ?_) (fun hc => ?_)
          · replace hK := mm_in hc hK
            refine mm_iload C (pc := 229) 5 dX12_judge_229 rfl ?_
            refine mm_sub C [] rfl ?_
            exact w_X12_judge_231 hd C _ _ hK
          · replace hK := mm_ip hc hK
            refine mm_iload C (pc := 224) 4 dX12_judge_224 rfl ?_
            refine mm_goto C (pc := 226) (tgt := 231) dX12_judge_226 (by decide) ?_
            refine mm_sub C [] rfl ?_
            exact w_X12_judge_231 hd C _ _ hK
        · replace hK := mm_ip hc hK
          refine mm_iload C (pc := 214) 3 dX12_judge_214 rfl ?_
          refine mm_goto C (pc := 216) (tgt := 231) dX12_judge_216 (by decide) ?_
          refine mm_sub C [] rfl ?_
          exact w_X12_judge_231 hd C _ _ hK
      · replace hK := mm_ip hc hK
        refine mm_iload_n C (pc := 205) 2 dX12_judge_205 rfl ?_
        refine mm_goto C (pc := 206) (tgt := 231) dX12_judge_206 (by decide) ?_
        refine mm_sub C [] rfl ?_
        exact w_X12_judge_231 hd C _ _ hK
    · replace hK := mm_in hc hK
      refine mm_aload_n C (pc := 178) 0 dX12_judge_178 rfl ?_
      replace hK := mm_bd hK; obtain ⟨v179, e179, hK⟩ := hK
      refine mm_getr C (pc := 179) (k := 0) inGX12 rfl (by decide) wd_1999 dX12_judge_179 e179 ?_
      refine mm_bipush C (pc := 182) (v := (51 : Int32)) dX12_judge_182 (by decide) ?_
      refine mm_iload C (pc := 184) 6 dX12_judge_184 rfl ?_
      refine mm_iadd C (pc := 186) dX12_judge_186 ?_
      refine mm_aload_n C (pc := 187) 0 dX12_judge_187 rfl ?_
      replace hK := mm_bd hK; obtain ⟨v188, e188, hK⟩ := hK
      refine mm_getr C (pc := 188) (k := 24) inGX12 rfl (by decide) wd_2023 dX12_judge_188 e188 ?_
      refine mm_iload C (pc := 191) 6 dX12_judge_191 rfl ?_
      replace hK := mm_bd hK; obtain ⟨v193, e193, hK⟩ := hK
      refine mm_iald C (pc := 193) dX12_judge_193 e193 ?_
      replace hK := mm_bd hK; obtain ⟨h194, e194, hK⟩ := hK
      refine mm_iast C (pc := 194) dX12_judge_194 e194 ?_
      refine mm_iinc C (pc := 195) (v := (l7 + (1 : Int32))) (lv' := [(7, .int (l7 + (1 : Int32))), (0, va_rf l0), (2, .int l2), (3, .int l3), (4, .int l4), (5, .int l5), (6, .int l6)]) 6 dX12_judge_195 rfl rfl (by decide) rfl ?_
      refine mm_goto C (pc := 198) (tgt := 171) dX12_judge_198 (by decide) ?_
      refine mm_sub C [1, 2, 3, 4, 5, 6, 0] rfl ?_
      exact ih _ _ _ _ _ _ _ _ hK
def F_X12_judge_151 (l0 : Option Nat) (l2 : Int32) (l3 : Int32) (l4 : Int32) (h : MH) : Option (Int32 × MH) := mm_b2 (cV h l0 12 (F_X12_callsThat l0 (3 : Int32) h)) fun v153 h153 => mm_b2 (cV h153 l0 12 (F_X12_twosWed l0 h153)) fun v159 h159 => (cV h159 l0 12 (F_X12_putsBack l0 h159)).bind fun h165 => F_X12_judge_171 mm_N l0 l2 l3 l4 v153 v159 (0 : Int32) h165
set_option maxRecDepth 20000 in
set_option maxHeartbeats 4000000 in
theorem w_X12_judge_151 {d : Nat} {V : Nat → List (Nat × Value) → List Value → MH → Prop} {r : Int32} {hz : MH} (hd : 9 ≤ d) (C : mm_C d yX12_judge cX12_judge 8 (some .int) (.inr (some (.int r))) hz V) (l0 : Option Nat) (l2 : Int32) (l3 : Int32) (l4 : Int32) (h : MH) (hK : F_X12_judge_151 l0 l2 l3 l4 h = some (r, hz)) : V 151 [(0, va_rf l0), (2, .int l2), (3, .int l3), (4, .int l4)] [] h := by
  unfold F_X12_judge_151 at hK
  refine mm_aload_n C (pc := 151) 0 dX12_judge_151 rfl ?_
  refine mm_iconst C (pc := 152) (v := (3 : Int32)) dX12_judge_152 (by decide) ?_
  replace hK := mm_b2s hK; obtain ⟨v153, h153, e153, hK⟩ := hK
  obtain ⟨o153, e153⟩ := cV_some e153
  refine mm_callV C (pc := 153) (d1 := 2) (As := [.int (3 : Int32)]) (st := []) (vk := (some (.int v153))) ((S_X12_callsThat (by omega)) e153) tT_X12_callsThat o153 (Or.inr ⟨_, rfl, rfl⟩) wd_2461 wd_2463 wd_108 (by omega) (by decide) rfl (by simp [mm_crf, mm_cti, mm_ctl]) rfl dX12_judge_153 ?_
  show V _ _ (.int v153 :: _) _
  refine mm_istore C (pc := 156) (i := 5) (lv' := [(5, .int v153), (0, va_rf l0), (2, .int l2), (3, .int l3), (4, .int l4)]) dX12_judge_156 (by decide) rfl ?_
  refine mm_aload_n C (pc := 158) 1 dX12_judge_158 rfl ?_
  replace hK := mm_b2s hK; obtain ⟨v159, h159, e159, hK⟩ := hK
  obtain ⟨o159, e159⟩ := cV_some e159
  refine mm_callV C (pc := 159) (d1 := 1) (As := []) (st := []) (vk := (some (.int v159))) ((S_X12_twosWed (by omega)) e159) tT_X12_twosWed o159 (Or.inr ⟨_, rfl, rfl⟩) wd_2465 wd_2467 wd_109 (by omega) (by decide) rfl (by simp [mm_crf, mm_cti, mm_ctl]) rfl dX12_judge_159 ?_
  show V _ _ (.int v159 :: _) _
  refine mm_istore C (pc := 162) (i := 6) (lv' := [(6, .int v159), (5, .int v153), (0, va_rf l0), (2, .int l2), (3, .int l3), (4, .int l4)]) dX12_judge_162 (by decide) rfl ?_
  refine mm_aload_n C (pc := 164) 2 dX12_judge_164 rfl ?_
  replace hK := mm_bd hK; obtain ⟨h165, e165, hK⟩ := hK
  obtain ⟨o165, e165⟩ := cV_some e165
  refine mm_callV C (pc := 165) (d1 := 1) (As := []) (st := []) (vk := none) ((S_X12_putsBack (by omega)) e165) tT_X12_putsBack o165 (Or.inr ⟨_, rfl, rfl⟩) wd_2469 wd_2471 wd_110 (by omega) (by decide) rfl (by simp [mm_crf, mm_cti, mm_ctl]) rfl dX12_judge_165 ?_
  show V _ _ [] _
  refine mm_iconst C (pc := 168) (v := (0 : Int32)) dX12_judge_168 (by decide) ?_
  refine mm_istore C (pc := 169) (i := 7) (lv' := [(7, .int (0 : Int32)), (6, .int v159), (5, .int v153), (0, va_rf l0), (2, .int l2), (3, .int l3), (4, .int l4)]) dX12_judge_169 (by decide) rfl ?_
  refine mm_sub C [3, 4, 5, 6, 2, 1, 0] rfl ?_
  exact w_X12_judge_171 hd C _ _ _ _ _ _ _ _ _ hK
def F_X12_judge_145 (k83 : Option Nat → Int32 → Int32 → Int32 → Int32 → Int32 → MH → Option (Int32 × MH)) (l0 : Option Nat) (l1 : Int32) (l2 : Int32) (l3 : Int32) (l4 : Int32) (l5 : Int32) (h : MH) : Option (Int32 × MH) := k83 l0 l1 l2 l3 l4 (l5 + (1 : Int32)) h
set_option maxRecDepth 20000 in
set_option maxHeartbeats 4000000 in
theorem w_X12_judge_145 {d : Nat} {V : Nat → List (Nat × Value) → List Value → MH → Prop} {r : Int32} {hz : MH} {k83 : Option Nat → Int32 → Int32 → Int32 → Int32 → Int32 → MH → Option (Int32 × MH)} (hd : 9 ≤ d) (C : mm_C d yX12_judge cX12_judge 8 (some .int) (.inr (some (.int r))) hz V) (q83 : ∀ (x0 : Option Nat) (x1 : Int32) (x2 : Int32) (x3 : Int32) (x4 : Int32) (x5 : Int32) (h : MH), k83 x0 x1 x2 x3 x4 x5 h = some (r, hz) → V 83 [(0, va_rf x0), (1, .int x1), (2, .int x2), (3, .int x3), (4, .int x4), (5, .int x5)] [] h) (l0 : Option Nat) (l1 : Int32) (l2 : Int32) (l3 : Int32) (l4 : Int32) (l5 : Int32) (h : MH) (hK : F_X12_judge_145 k83 l0 l1 l2 l3 l4 l5 h = some (r, hz)) : V 145 [(0, va_rf l0), (1, .int l1), (2, .int l2), (3, .int l3), (4, .int l4), (5, .int l5)] [] h := by
  unfold F_X12_judge_145 at hK
  refine mm_iinc C (pc := 145) (v := (l5 + (1 : Int32))) (lv' := [(5, .int (l5 + (1 : Int32))), (0, va_rf l0), (1, .int l1), (2, .int l2), (3, .int l3), (4, .int l4)]) 5 dX12_judge_145 rfl rfl (by decide) rfl ?_
  refine mm_goto C (pc := 148) (tgt := 83) dX12_judge_148 (by decide) ?_
  refine mm_sub C [1, 2, 3, 4, 5, 0] rfl ?_
  exact q83 _ _ _ _ _ _ _ hK
def F_X12_judge_83 : Nat → Option Nat → Int32 → Int32 → Int32 → Int32 → Int32 → MH → Option (Int32 × MH)
  | 0 => fun _ _ _ _ _ _ _ => none
  | n + 1 => fun l0 l1 l2 l3 l4 l5 h => (gR h l0 12 46).bind fun v86 => (aI h v86 0 l1).bind fun v90 => if v90 ≤ l5 then (F_X12_judge_151 l0 l2 l3 l4 h) else (if l3 = ((-1) : Int32) then ((gR h l0 12 47).bind fun v101 => (aL h v101 (((30 : Int32) * l1) + l5)).bind fun v111 => mm_b2 (cV h l0 12 (F_X12_whyTold l0 v111 h)) fun v112 h112 => if v112 = 0 then ((gR h112 l0 12 47).bind fun v124 => (aL h112 v124 (((30 : Int32) * l1) + l5)).bind fun v134 => (cV h112 l0 12 (F_X12_does l0 (v134.toInt32) h112)).bind fun h136 => F_X12_judge_145 (F_X12_judge_83 n) l0 l1 l2 l3 v112 l5 h136) else (F_X12_judge_145 (F_X12_judge_83 n) l0 l1 l2 l5 v112 l5 h112)) else (F_X12_judge_151 l0 l2 l3 l4 h))
set_option maxRecDepth 20000 in
set_option maxHeartbeats 4000000 in
theorem w_X12_judge_83 {d : Nat} {V : Nat → List (Nat × Value) → List Value → MH → Prop} {r : Int32} {hz : MH} (hd : 9 ≤ d) (C : mm_C d yX12_judge cX12_judge 8 (some .int) (.inr (some (.int r))) hz V) : ∀ (n : Nat) (l0 : Option Nat) (l1 : Int32) (l2 : Int32) (l3 : Int32) (l4 : Int32) (l5 : Int32) (h : MH), F_X12_judge_83 n l0 l1 l2 l3 l4 l5 h = some (r, hz) → V 83 [(0, va_rf l0), (1, .int l1), (2, .int l2), (3, .int l3), (4, .int l4), (5, .int l5)] [] h := by
  intro n
  induction n with
  | zero => intro l0 l1 l2 l3 l4 l5 h hK; cases hK
  | succ n ih =>
    intro l0 l1 l2 l3 l4 l5 h hK
    replace hK : ((gR h l0 12 46).bind fun v86 => (aI h v86 0 l1).bind fun v90 => if v90 ≤ l5 then (F_X12_judge_151 l0 l2 l3 l4 h) else (if l3 = ((-1) : Int32) then ((gR h l0 12 47).bind fun v101 => (aL h v101 (((30 : Int32) * l1) + l5)).bind fun v111 => mm_b2 (cV h l0 12 (F_X12_whyTold l0 v111 h)) fun v112 h112 => if v112 = 0 then ((gR h112 l0 12 47).bind fun v124 => (aL h112 v124 (((30 : Int32) * l1) + l5)).bind fun v134 => (cV h112 l0 12 (F_X12_does l0 (v134.toInt32) h112)).bind fun h136 => F_X12_judge_145 (F_X12_judge_83 n) l0 l1 l2 l3 v112 l5 h136) else (F_X12_judge_145 (F_X12_judge_83 n) l0 l1 l2 l5 v112 l5 h112)) else (F_X12_judge_151 l0 l2 l3 l4 h))) = some (r, hz) := hK
    refine mm_iload C (pc := 83) 5 dX12_judge_83 rfl ?_
    refine mm_aload_n C (pc := 85) 0 dX12_judge_85 rfl ?_
    replace hK := mm_bd hK; obtain ⟨v86, e86, hK⟩ := hK
    refine mm_getr C (pc := 86) (k := 46) inGX12 rfl (by decide) wd_2045 dX12_judge_86 e86 ?_
    refine mm_iload_n C (pc := 89) 1 dX12_judge_89 rfl ?_
    replace hK := mm_bd hK; obtain ⟨v90, e90, hK⟩ := hK
    refine mm_iald C (pc := 90) dX12_judge_90 e90 ?_
    refine mm_icmp_ge C (pc := 91) (tgt := 151) dX12_judge_91 (by decide) (fun hc => ?_) (fun hc => ?_)
    · replace hK := mm_ip hc hK
      refine mm_sub C [0, 2, 3, 4] rfl ?_
      exact w_X12_judge_151 hd C _ _ _ _ _ hK
    · replace hK := mm_in hc hK
      refine mm_iload_n C (pc := 94) 3 dX12_judge_94 rfl ?_
      refine mm_iconst C (pc := 95) (v := ((-1) : Int32)) dX12_judge_95 (by decide) ?_
      refine mm_icmp_ne C (pc := 96) (tgt := 151) dX12_judge_96 (by decide) (fun hc => ?_) (fun hc => ?_)
      · replace hK := mm_in hc hK
        refine mm_sub C [0, 2, 3, 4] rfl ?_
        exact w_X12_judge_151 hd C _ _ _ _ _ hK
      · replace hK := mm_ip hc hK
        refine mm_aload_n C (pc := 99) 0 dX12_judge_99 rfl ?_
        refine mm_aload_n C (pc := 100) 0 dX12_judge_100 rfl ?_
        replace hK := mm_bd hK; obtain ⟨v101, e101, hK⟩ := hK
        refine mm_getr C (pc := 101) (k := 47) inGX12 rfl (by decide) wd_2046 dX12_judge_101 e101 ?_
        refine mm_bipush C (pc := 104) (v := (30 : Int32)) dX12_judge_104 (by decide) ?_
        refine mm_iload_n C (pc := 106) 1 dX12_judge_106 rfl ?_
        refine mm_imul C (pc := 107) dX12_judge_107 ?_
        refine mm_iload C (pc := 108) 5 dX12_judge_108 rfl ?_
        refine mm_iadd C (pc := 110) dX12_judge_110 ?_
        replace hK := mm_bd hK; obtain ⟨v111, e111, hK⟩ := hK
        refine mm_lald C (pc := 111) dX12_judge_111 e111 ?_
        replace hK := mm_b2s hK; obtain ⟨v112, h112, e112, hK⟩ := hK
        obtain ⟨o112, e112⟩ := cV_some e112
        refine mm_callV C (pc := 112) (d1 := 4) (As := [.long v111]) (st := []) (vk := (some (.int v112))) ((S_X12_whyTold (by omega)) e112) tT_X12_whyTold o112 (Or.inr ⟨_, rfl, rfl⟩) wd_2448 wd_2450 wd_106 (by omega) (by decide) rfl (by simp [mm_crf, mm_cti, mm_ctl]) rfl dX12_judge_112 ?_
        show V _ _ (.int v112 :: _) _
        refine mm_istore C (pc := 115) (i := 4) (lv' := [(4, .int v112), (0, va_rf l0), (1, .int l1), (2, .int l2), (3, .int l3), (5, .int l5)]) dX12_judge_115 (by decide) rfl ?_
        refine mm_iload C (pc := 117) 0 dX12_judge_117 rfl ?_
        refine mm_if_ne C (pc := 119) (tgt := 142) dX12_judge_119 (by decide) (fun hc => ?_) (fun hc => ?_)
        · replace hK := mm_in hc hK
          refine mm_iload C (pc := 142) 5 dX12_judge_142 rfl ?_
          refine mm_istore_n C (pc := 144) (i := 3) (lv' := [(3, .int l5), (4, .int v112), (0, va_rf l0), (1, .int l1), (2, .int l2), (5, .int l5)]) dX12_judge_144 rfl (by decide) rfl ?_
          refine mm_sub C [2, 3, 4, 0, 1, 5] rfl ?_
          exact w_X12_judge_145 hd C (fun z0 z1 z2 z3 z4 z5 z6 hK => ih z0 z1 z2 z3 z4 z5 z6 hK) _ _ _ _ _ _ _ hK
        · replace hK := mm_ip hc hK
          refine mm_aload_n C (pc := 122) 1 dX12_judge_122 rfl ?_
          refine mm_aload_n C (pc := 123) 1 dX12_judge_123 rfl ?_
          replace hK := mm_bd hK; obtain ⟨v124, e124, hK⟩ := hK
          refine mm_getr C (pc := 124) (k := 47) inGX12 rfl (by decide) wd_2046 dX12_judge_124 e124 ?_
          refine mm_bipush C (pc := 127) (v := (30 : Int32)) dX12_judge_127 (by decide) ?_
          refine mm_iload_n C (pc := 129) 2 dX12_judge_129 rfl ?_
          refine mm_imul C (pc := 130) dX12_judge_130 ?_
          refine mm_iload C (pc := 131) 5 dX12_judge_131 rfl ?_
          refine mm_iadd C (pc := 133) dX12_judge_133 ?_
          replace hK := mm_bd hK; obtain ⟨v134, e134, hK⟩ := hK
          refine mm_lald C (pc := 134) dX12_judge_134 e134 ?_
          refine mm_l2i C (pc := 135) dX12_judge_135 ?_
          replace hK := mm_bd hK; obtain ⟨h136, e136, hK⟩ := hK
          obtain ⟨o136, e136⟩ := cV_some e136
          refine mm_callV C (pc := 136) (d1 := 8) (As := [.int (v134.toInt32)]) (st := []) (vk := none) ((S_X12_does (by omega)) e136) tT_X12_does o136 (Or.inr ⟨_, rfl, rfl⟩) wd_2457 wd_2459 wd_107 (by omega) (by decide) rfl (by simp [mm_crf, mm_cti, mm_ctl]) rfl dX12_judge_136 ?_
          show V _ _ [] _
          refine mm_goto C (pc := 139) (tgt := 145) dX12_judge_139 (by decide) ?_
          refine mm_sub C [1, 2, 3, 4, 0, 5] rfl ?_
          exact w_X12_judge_145 hd C (fun z0 z1 z2 z3 z4 z5 z6 hK => ih z0 z1 z2 z3 z4 z5 z6 hK) _ _ _ _ _ _ _ hK
def F_X12_judge_48 : Nat → Option Nat → Int32 → Int32 → Int32 → MH → Option (Int32 × MH)
  | 0 => fun _ _ _ _ _ => none
  | n + 1 => fun l0 l1 l2 l3 h => if (40 : Int32) ≤ l3 then (F_X12_judge_83 mm_N l0 l1 l2 ((-1) : Int32) (0 : Int32) (0 : Int32) h) else ((gR h l0 12 24).bind fun v55 => (gR h l0 12 0).bind fun v60 => (aI h v60 0 ((51 : Int32) + l3)).bind fun v67 => (sI h v55 0 l3 v67).bind fun h68 => F_X12_judge_48 n l0 l1 l2 (l3 + (1 : Int32)) h68)
set_option maxRecDepth 20000 in
set_option maxHeartbeats 4000000 in
theorem w_X12_judge_48 {d : Nat} {V : Nat → List (Nat × Value) → List Value → MH → Prop} {r : Int32} {hz : MH} (hd : 9 ≤ d) (C : mm_C d yX12_judge cX12_judge 8 (some .int) (.inr (some (.int r))) hz V) : ∀ (n : Nat) (l0 : Option Nat) (l1 : Int32) (l2 : Int32) (l3 : Int32) (h : MH), F_X12_judge_48 n l0 l1 l2 l3 h = some (r, hz) → V 48 [(0, va_rf l0), (1, .int l1), (2, .int l2), (3, .int l3)] [] h := by
  intro n
  induction n with
  | zero => intro l0 l1 l2 l3 h hK; cases hK
  | succ n ih =>
    intro l0 l1 l2 l3 h hK
    replace hK : (if (40 : Int32) ≤ l3 then (F_X12_judge_83 mm_N l0 l1 l2 ((-1) : Int32) (0 : Int32) (0 : Int32) h) else ((gR h l0 12 24).bind fun v55 => (gR h l0 12 0).bind fun v60 => (aI h v60 0 ((51 : Int32) + l3)).bind fun v67 => (sI h v55 0 l3 v67).bind fun h68 => F_X12_judge_48 n l0 l1 l2 (l3 + (1 : Int32)) h68)) = some (r, hz) := hK
    refine mm_iload_n C (pc := 48) 3 dX12_judge_48 rfl ?_
    refine mm_bipush C (pc := 49) (v := (40 : Int32)) dX12_judge_49 (by decide) ?_
    refine mm_icmp_ge C (pc := 51) (tgt := 75) dX12_judge_51 (by decide) (fun hc => ?_) (fun hc => ?_)
    · replace hK := mm_ip hc hK
      refine mm_iconst C (pc := 75) (v := ((-1) : Int32)) dX12_judge_75 (by decide) ?_
      refine mm_istore_n C (pc := 76) (i := 3) (lv' := [(3, .int ((-1) : Int32)), (0, va_rf l0), (1, .int l1), (2, .int l2)]) dX12_judge_76 rfl (by decide) rfl ?_
      refine mm_iconst C (pc := 77) (v := (0 : Int32)) dX12_judge_77 (by decide) ?_
      refine mm_istore C (pc := 78) (i := 4) (lv' := [(4, .int (0 : Int32)), (3, .int ((-1) : Int32)), (0, va_rf l0), (1, .int l1), (2, .int l2)]) dX12_judge_78 (by decide) rfl ?_
      refine mm_iconst C (pc := 80) (v := (0 : Int32)) dX12_judge_80 (by decide) ?_
      refine mm_istore C (pc := 81) (i := 5) (lv' := [(5, .int (0 : Int32)), (4, .int (0 : Int32)), (3, .int ((-1) : Int32)), (0, va_rf l0), (1, .int l1), (2, .int l2)]) dX12_judge_81 (by decide) rfl ?_
      refine mm_sub C [3, 4, 5, 2, 1, 0] rfl ?_
      exact w_X12_judge_83 hd C _ _ _ _ _ _ _ _ hK
    · replace hK := mm_in hc hK
      refine mm_aload_n C (pc := 54) 0 dX12_judge_54 rfl ?_
      replace hK := mm_bd hK; obtain ⟨v55, e55, hK⟩ := hK
      refine mm_getr C (pc := 55) (k := 24) inGX12 rfl (by decide) wd_2023 dX12_judge_55 e55 ?_
      refine mm_iload_n C (pc := 58) 3 dX12_judge_58 rfl ?_
      refine mm_aload_n C (pc := 59) 0 dX12_judge_59 rfl ?_
      replace hK := mm_bd hK; obtain ⟨v60, e60, hK⟩ := hK
      refine mm_getr C (pc := 60) (k := 0) inGX12 rfl (by decide) wd_1999 dX12_judge_60 e60 ?_
      refine mm_bipush C (pc := 63) (v := (51 : Int32)) dX12_judge_63 (by decide) ?_
      refine mm_iload_n C (pc := 65) 3 dX12_judge_65 rfl ?_
      refine mm_iadd C (pc := 66) dX12_judge_66 ?_
      replace hK := mm_bd hK; obtain ⟨v67, e67, hK⟩ := hK
      refine mm_iald C (pc := 67) dX12_judge_67 e67 ?_
      replace hK := mm_bd hK; obtain ⟨h68, e68, hK⟩ := hK
      refine mm_iast C (pc := 68) dX12_judge_68 e68 ?_
      refine mm_iinc C (pc := 69) (v := (l3 + (1 : Int32))) (lv' := [(3, .int (l3 + (1 : Int32))), (0, va_rf l0), (1, .int l1), (2, .int l2)]) 3 dX12_judge_69 rfl rfl (by decide) rfl ?_
      refine mm_goto C (pc := 72) (tgt := 48) dX12_judge_72 (by decide) ?_
      refine mm_sub C [1, 2, 3, 0] rfl ?_
      exact ih _ _ _ _ _ hK
def F_X12_judge_33 (l0 : Option Nat) (l1 : Int32) (l2 : Int32) (h : MH) : Option (Int32 × MH) := (gI h l0 12 4).bind fun v34 => if v34 ≤ 0 then ((cV h l0 12 (F_X12_putsAside l0 h)).bind fun h43 => F_X12_judge_48 mm_N l0 l1 l2 (0 : Int32) h43) else (some ((0 : Int32), h))
set_option maxRecDepth 20000 in
set_option maxHeartbeats 4000000 in
theorem w_X12_judge_33 {d : Nat} {V : Nat → List (Nat × Value) → List Value → MH → Prop} {r : Int32} {hz : MH} (hd : 9 ≤ d) (C : mm_C d yX12_judge cX12_judge 8 (some .int) (.inr (some (.int r))) hz V) (l0 : Option Nat) (l1 : Int32) (l2 : Int32) (h : MH) (hK : F_X12_judge_33 l0 l1 l2 h = some (r, hz)) : V 33 [(0, va_rf l0), (1, .int l1), (2, .int l2)] [] h := by
  unfold F_X12_judge_33 at hK
  refine mm_aload_n C (pc := 33) 0 dX12_judge_33 rfl ?_
  replace hK := mm_bd hK; obtain ⟨v34, e34, hK⟩ := hK
  refine mm_geti C (pc := 34) (k := 4) inGX12 rfl (by decide) wd_2003 dX12_judge_34 e34 ?_
  refine mm_if_le C (pc := 37) (tgt := 42) dX12_judge_37 (by decide) (fun hc => ?_) (fun hc => ?_)
  · replace hK := mm_ip hc hK
    refine mm_aload_n C (pc := 42) 0 dX12_judge_42 rfl ?_
    replace hK := mm_bd hK; obtain ⟨h43, e43, hK⟩ := hK
    obtain ⟨o43, e43⟩ := cV_some e43
    refine mm_callV C (pc := 43) (d1 := 1) (As := []) (st := []) (vk := none) ((S_X12_putsAside (by omega)) e43) tT_X12_putsAside o43 (Or.inr ⟨_, rfl, rfl⟩) wd_2444 wd_2446 wd_105 (by omega) (by decide) rfl (by simp [mm_crf, mm_cti, mm_ctl]) rfl dX12_judge_43 ?_
    show V _ _ [] _
    refine mm_iconst C (pc := 46) (v := (0 : Int32)) dX12_judge_46 (by decide) ?_
    refine mm_istore_n C (pc := 47) (i := 3) (lv' := [(3, .int (0 : Int32)), (0, va_rf l0), (1, .int l1), (2, .int l2)]) dX12_judge_47 rfl (by decide) rfl ?_
    refine mm_sub C [1, 2, 3, 0] rfl ?_
    exact w_X12_judge_48 hd C _ _ _ _ _ _ hK
  · replace hK := mm_in hc hK
    refine mm_iconst C (pc := 40) (v := (0 : Int32)) dX12_judge_40 (by decide) ?_
    cases hK
    exact mm_iret C (pc := 41) rfl dX12_judge_41 rfl rfl
def F_X12_judge (a0 : Option Nat) (a1 : Int32) (a2 : Int32) (h : MH) : Option (Int32 × MH) := mm_b2 (cV h a0 12 (F_X12_trayFault a0 a1 h)) fun v3 h3 => (pI h3 a0 12 4 v3).bind fun h6 => (gI h6 a0 12 4).bind fun v10 => if v10 = 0 then (mm_b2 (F_X12_within (a2.toInt64) (0 : Int64) (3 : Int64) h6) fun v22 h22 => if v22 = 0 then ((pI h22 a0 12 4 (3 : Int32)).bind fun h30 => F_X12_judge_33 a0 a1 a2 h30) else (F_X12_judge_33 a0 a1 a2 h22)) else (F_X12_judge_33 a0 a1 a2 h6)
set_option maxRecDepth 20000 in
set_option maxHeartbeats 4000000 in
theorem S_X12_judge {d : Nat} (hd : 9 ≤ d) {a0 : Option Nat} {a1 : Int32} {a2 : Int32} {h : MH} {r : Int32} {hz : MH} (hK : F_X12_judge a0 a1 a2 h = some (r, hz)) : mm_M yX12_judge cX12_judge 8 (some .int) d [va_rf a0, .int a1, .int a2] h (.inr (some (.int r))) hz := by
  refine mm_ofV (by decide +kernel) (by simp [lg_sl, mm_crf, mm_cti, mm_ctl]) (fun V C => ?_)
  rw [show lv_args 0 [va_rf a0, .int a1, .int a2] = [(0, va_rf a0), (1, .int a1), (2, .int a2)] by simp [lv_args, mm_crf, mm_cti, mm_ctl]]
  unfold F_X12_judge at hK
  refine mm_aload_n C (pc := 0) 0 dX12_judge_0 rfl ?_
  refine mm_aload_n C (pc := 1) 0 dX12_judge_1 rfl ?_
  refine mm_iload_n C (pc := 2) 1 dX12_judge_2 rfl ?_
  replace hK := mm_b2s hK; obtain ⟨v3, h3, e3, hK⟩ := hK
  obtain ⟨o3, e3⟩ := cV_some e3
  refine mm_callV C (pc := 3) (d1 := 3) (As := [.int a1]) (st := [va_rf a0]) (vk := (some (.int v3))) ((S_X12_trayFault (by omega)) e3) tT_X12_trayFault o3 (Or.inr ⟨_, rfl, rfl⟩) wd_2436 wd_2438 wd_104 (by omega) (by decide) rfl (by simp [mm_crf, mm_cti, mm_ctl]) rfl dX12_judge_3 ?_
  show V _ _ (.int v3 :: _) _
  replace hK := mm_bd hK; obtain ⟨h6, e6, hK⟩ := hK
  refine mm_puti C (pc := 6) (k := 4) false (fun z => by cases z) inGX12 tyX12 tyX12_ok nmX12 rfl (by decide) wd_2003 rfl rfl dX12_judge_6 e6 ?_
  refine mm_aload_n C (pc := 9) 0 dX12_judge_9 rfl ?_
  replace hK := mm_bd hK; obtain ⟨v10, e10, hK⟩ := hK
  refine mm_geti C (pc := 10) (k := 4) inGX12 rfl (by decide) wd_2003 dX12_judge_10 e10 ?_
  refine mm_if_ne C (pc := 13) (tgt := 33) dX12_judge_13 (by decide) (fun hc => ?_) (fun hc => ?_)
  · replace hK := mm_in hc hK
    exact w_X12_judge_33 hd C _ _ _ _ hK
  · replace hK := mm_ip hc hK
    refine mm_iload_n C (pc := 16) 2 dX12_judge_16 rfl ?_
    refine mm_i2l C (pc := 17) dX12_judge_17 ?_
    refine mm_lconst C (pc := 18) (v := (0 : Int64)) dX12_judge_18 (by decide) ?_
    refine mm_ldc2 C (pc := 19) (v := (3 : Int64)) dX12_judge_19 wd_2443 ?_
    replace hK := mm_b2s hK; obtain ⟨v22, h22, e22, hK⟩ := hK
    refine mm_callS C (pc := 22) (d1 := 1) (As := [.long (a2.toInt64), .long (0 : Int64), .long (3 : Int64)]) (st := []) (vk := (some (.int v22))) ((S_X12_within (by omega)) e22) tT_X12_within wd_2157 wd_2158 (by omega) (by decide) rfl (by simp [mm_crf, mm_cti, mm_ctl]) rfl dX12_judge_22 ?_
    show V _ _ (.int v22 :: _) _
    refine mm_if_ne C (pc := 25) (tgt := 33) dX12_judge_25 (by decide) (fun hc => ?_) (fun hc => ?_)
    · replace hK := mm_in hc hK
      exact w_X12_judge_33 hd C _ _ _ _ hK
    · replace hK := mm_ip hc hK
      refine mm_aload_n C (pc := 28) 0 dX12_judge_28 rfl ?_
      refine mm_iconst C (pc := 29) (v := (3 : Int32)) dX12_judge_29 (by decide) ?_
      replace hK := mm_bd hK; obtain ⟨h30, e30, hK⟩ := hK
      refine mm_puti C (pc := 30) (k := 4) false (fun z => by cases z) inGX12 tyX12 tyX12_ok nmX12 rfl (by decide) wd_2003 rfl rfl dX12_judge_30 e30 ?_
      exact w_X12_judge_33 hd C _ _ _ _ hK
def F_X12_perform_74 (l2 : Int32) (h : MH) : Option (Int32 × MH) := some (l2, h)
set_option maxRecDepth 20000 in
set_option maxHeartbeats 4000000 in
theorem w_X12_perform_74 {d : Nat} {V : Nat → List (Nat × Value) → List Value → MH → Prop} {r : Int32} {hz : MH} (hd : 9 ≤ d) (C : mm_C d yX12_perform cX12_perform 3 (some .int) (.inr (some (.int r))) hz V) (l2 : Int32) (h : MH) (hK : F_X12_perform_74 l2 h = some (r, hz)) : V 74 [(2, .int l2)] [] h := by
  unfold F_X12_perform_74 at hK
  refine mm_iload_n C (pc := 74) 0 dX12_perform_74 rfl ?_
  cases hK
  exact mm_iret C (pc := 75) rfl dX12_perform_75 rfl rfl
def F_X12_perform_20 : Nat → Option Nat → Int32 → Int32 → MH → Option (Int32 × MH)
  | 0 => fun _ _ _ _ => none
  | n + 1 => fun l0 l1 l2 h => (gR h l0 12 46).bind fun v22 => (aI h v22 0 l1).bind fun v26 => if v26 ≤ l2 then (F_X12_perform_74 l2 h) else ((gR h l0 12 47).bind fun v32 => (aL h v32 (((30 : Int32) * l1) + l2)).bind fun v41 => mm_b2 (cV h l0 12 (F_X12_whyTold l0 v41 h)) fun v42 h42 => if v42 = 0 then ((cV h42 l0 12 (F_X12_keeps l0 h42)).bind fun h49 => (gR h49 l0 12 47).bind fun v54 => (aL h49 v54 (((30 : Int32) * l1) + l2)).bind fun v63 => (cV h49 l0 12 (F_X12_does l0 (v63.toInt32) h49)).bind fun h65 => F_X12_perform_20 n l0 l1 (l2 + (1 : Int32)) h65) else (F_X12_perform_74 l2 h42))
set_option maxRecDepth 20000 in
set_option maxHeartbeats 4000000 in
theorem w_X12_perform_20 {d : Nat} {V : Nat → List (Nat × Value) → List Value → MH → Prop} {r : Int32} {hz : MH} (hd : 9 ≤ d) (C : mm_C d yX12_perform cX12_perform 3 (some .int) (.inr (some (.int r))) hz V) : ∀ (n : Nat) (l0 : Option Nat) (l1 : Int32) (l2 : Int32) (h : MH), F_X12_perform_20 n l0 l1 l2 h = some (r, hz) → V 20 [(0, va_rf l0), (1, .int l1), (2, .int l2)] [] h := by
  intro n
  induction n with
  | zero => intro l0 l1 l2 h hK; cases hK
  | succ n ih =>
    intro l0 l1 l2 h hK
    replace hK : ((gR h l0 12 46).bind fun v22 => (aI h v22 0 l1).bind fun v26 => if v26 ≤ l2 then (F_X12_perform_74 l2 h) else ((gR h l0 12 47).bind fun v32 => (aL h v32 (((30 : Int32) * l1) + l2)).bind fun v41 => mm_b2 (cV h l0 12 (F_X12_whyTold l0 v41 h)) fun v42 h42 => if v42 = 0 then ((cV h42 l0 12 (F_X12_keeps l0 h42)).bind fun h49 => (gR h49 l0 12 47).bind fun v54 => (aL h49 v54 (((30 : Int32) * l1) + l2)).bind fun v63 => (cV h49 l0 12 (F_X12_does l0 (v63.toInt32) h49)).bind fun h65 => F_X12_perform_20 n l0 l1 (l2 + (1 : Int32)) h65) else (F_X12_perform_74 l2 h42))) = some (r, hz) := hK
    refine mm_iload_n C (pc := 20) 2 dX12_perform_20 rfl ?_
    refine mm_aload_n C (pc := 21) 0 dX12_perform_21 rfl ?_
    replace hK := mm_bd hK; obtain ⟨v22, e22, hK⟩ := hK
    refine mm_getr C (pc := 22) (k := 46) inGX12 rfl (by decide) wd_2045 dX12_perform_22 e22 ?_
    refine mm_iload_n C (pc := 25) 1 dX12_perform_25 rfl ?_
    replace hK := mm_bd hK; obtain ⟨v26, e26, hK⟩ := hK
    refine mm_iald C (pc := 26) dX12_perform_26 e26 ?_
    refine mm_icmp_ge C (pc := 27) (tgt := 74) dX12_perform_27 (by decide) (fun hc => ?_) (fun hc => ?_)
    · replace hK := mm_ip hc hK
      refine mm_sub C [2] rfl ?_
      exact w_X12_perform_74 hd C _ _ hK
    · replace hK := mm_in hc hK
      refine mm_aload_n C (pc := 30) 0 dX12_perform_30 rfl ?_
      refine mm_aload_n C (pc := 31) 0 dX12_perform_31 rfl ?_
      replace hK := mm_bd hK; obtain ⟨v32, e32, hK⟩ := hK
      refine mm_getr C (pc := 32) (k := 47) inGX12 rfl (by decide) wd_2046 dX12_perform_32 e32 ?_
      refine mm_bipush C (pc := 35) (v := (30 : Int32)) dX12_perform_35 (by decide) ?_
      refine mm_iload_n C (pc := 37) 1 dX12_perform_37 rfl ?_
      refine mm_imul C (pc := 38) dX12_perform_38 ?_
      refine mm_iload_n C (pc := 39) 2 dX12_perform_39 rfl ?_
      refine mm_iadd C (pc := 40) dX12_perform_40 ?_
      replace hK := mm_bd hK; obtain ⟨v41, e41, hK⟩ := hK
      refine mm_lald C (pc := 41) dX12_perform_41 e41 ?_
      replace hK := mm_b2s hK; obtain ⟨v42, h42, e42, hK⟩ := hK
      obtain ⟨o42, e42⟩ := cV_some e42
      refine mm_callV C (pc := 42) (d1 := 4) (As := [.long v41]) (st := []) (vk := (some (.int v42))) ((S_X12_whyTold (by omega)) e42) tT_X12_whyTold o42 (Or.inr ⟨_, rfl, rfl⟩) wd_2448 wd_2450 wd_106 (by omega) (by decide) rfl (by simp [mm_crf, mm_cti, mm_ctl]) rfl dX12_perform_42 ?_
      show V _ _ (.int v42 :: _) _
      refine mm_if_ne C (pc := 45) (tgt := 74) dX12_perform_45 (by decide) (fun hc => ?_) (fun hc => ?_)
      · replace hK := mm_in hc hK
        refine mm_sub C [2] rfl ?_
        exact w_X12_perform_74 hd C _ _ hK
      · replace hK := mm_ip hc hK
        refine mm_aload_n C (pc := 48) 0 dX12_perform_48 rfl ?_
        replace hK := mm_bd hK; obtain ⟨h49, e49, hK⟩ := hK
        obtain ⟨o49, e49⟩ := cV_some e49
        refine mm_callV C (pc := 49) (d1 := 1) (As := []) (st := []) (vk := none) ((S_X12_keeps (by omega)) e49) tT_X12_keeps o49 (Or.inr ⟨_, rfl, rfl⟩) wd_2388 wd_2390 wd_98 (by omega) (by decide) rfl (by simp [mm_crf, mm_cti, mm_ctl]) rfl dX12_perform_49 ?_
        show V _ _ [] _
        refine mm_aload_n C (pc := 52) 0 dX12_perform_52 rfl ?_
        refine mm_aload_n C (pc := 53) 0 dX12_perform_53 rfl ?_
        replace hK := mm_bd hK; obtain ⟨v54, e54, hK⟩ := hK
        refine mm_getr C (pc := 54) (k := 47) inGX12 rfl (by decide) wd_2046 dX12_perform_54 e54 ?_
        refine mm_bipush C (pc := 57) (v := (30 : Int32)) dX12_perform_57 (by decide) ?_
        refine mm_iload_n C (pc := 59) 1 dX12_perform_59 rfl ?_
        refine mm_imul C (pc := 60) dX12_perform_60 ?_
        refine mm_iload_n C (pc := 61) 2 dX12_perform_61 rfl ?_
        refine mm_iadd C (pc := 62) dX12_perform_62 ?_
        replace hK := mm_bd hK; obtain ⟨v63, e63, hK⟩ := hK
        refine mm_lald C (pc := 63) dX12_perform_63 e63 ?_
        refine mm_l2i C (pc := 64) dX12_perform_64 ?_
        replace hK := mm_bd hK; obtain ⟨h65, e65, hK⟩ := hK
        obtain ⟨o65, e65⟩ := cV_some e65
        refine mm_callV C (pc := 65) (d1 := 8) (As := [.int (v63.toInt32)]) (st := []) (vk := none) ((S_X12_does (by omega)) e65) tT_X12_does o65 (Or.inr ⟨_, rfl, rfl⟩) wd_2457 wd_2459 wd_107 (by omega) (by decide) rfl (by simp [mm_crf, mm_cti, mm_ctl]) rfl dX12_perform_65 ?_
        show V _ _ [] _
        refine mm_iinc C (pc := 68) (v := (l2 + (1 : Int32))) (lv' := [(2, .int (l2 + (1 : Int32))), (0, va_rf l0), (1, .int l1)]) 2 dX12_perform_68 rfl rfl (by decide) rfl ?_
        refine mm_goto C (pc := 71) (tgt := 20) dX12_perform_71 (by decide) ?_
        refine mm_sub C [1, 2, 0] rfl ?_
        exact ih _ _ _ _ hK
def F_X12_perform (a0 : Option Nat) (a1 : Int32) (h : MH) : Option (Int32 × MH) := mm_b2 (cV h a0 12 (F_X12_trayFault a0 a1 h)) fun v3 h3 => (pI h3 a0 12 4 v3).bind fun h6 => (gI h6 a0 12 4).bind fun v10 => if v10 ≤ 0 then (F_X12_perform_20 mm_N a0 a1 (0 : Int32) h6) else (some ((0 : Int32), h6))
set_option maxRecDepth 20000 in
set_option maxHeartbeats 4000000 in
theorem S_X12_perform {d : Nat} (hd : 9 ≤ d) {a0 : Option Nat} {a1 : Int32} {h : MH} {r : Int32} {hz : MH} (hK : F_X12_perform a0 a1 h = some (r, hz)) : mm_M yX12_perform cX12_perform 3 (some .int) d [va_rf a0, .int a1] h (.inr (some (.int r))) hz := by
  refine mm_ofV (by decide +kernel) (by simp [lg_sl, mm_crf, mm_cti, mm_ctl]) (fun V C => ?_)
  rw [show lv_args 0 [va_rf a0, .int a1] = [(0, va_rf a0), (1, .int a1)] by simp [lv_args, mm_crf, mm_cti, mm_ctl]]
  unfold F_X12_perform at hK
  refine mm_aload_n C (pc := 0) 0 dX12_perform_0 rfl ?_
  refine mm_aload_n C (pc := 1) 0 dX12_perform_1 rfl ?_
  refine mm_iload_n C (pc := 2) 1 dX12_perform_2 rfl ?_
  replace hK := mm_b2s hK; obtain ⟨v3, h3, e3, hK⟩ := hK
  obtain ⟨o3, e3⟩ := cV_some e3
  refine mm_callV C (pc := 3) (d1 := 3) (As := [.int a1]) (st := [va_rf a0]) (vk := (some (.int v3))) ((S_X12_trayFault (by omega)) e3) tT_X12_trayFault o3 (Or.inr ⟨_, rfl, rfl⟩) wd_2436 wd_2438 wd_104 (by omega) (by decide) rfl (by simp [mm_crf, mm_cti, mm_ctl]) rfl dX12_perform_3 ?_
  show V _ _ (.int v3 :: _) _
  replace hK := mm_bd hK; obtain ⟨h6, e6, hK⟩ := hK
  refine mm_puti C (pc := 6) (k := 4) false (fun z => by cases z) inGX12 tyX12 tyX12_ok nmX12 rfl (by decide) wd_2003 rfl rfl dX12_perform_6 e6 ?_
  refine mm_aload_n C (pc := 9) 0 dX12_perform_9 rfl ?_
  replace hK := mm_bd hK; obtain ⟨v10, e10, hK⟩ := hK
  refine mm_geti C (pc := 10) (k := 4) inGX12 rfl (by decide) wd_2003 dX12_perform_10 e10 ?_
  refine mm_if_le C (pc := 13) (tgt := 18) dX12_perform_13 (by decide) (fun hc => ?_) (fun hc => ?_)
  · replace hK := mm_ip hc hK
    refine mm_iconst C (pc := 18) (v := (0 : Int32)) dX12_perform_18 (by decide) ?_
    refine mm_istore_n C (pc := 19) (i := 2) (lv' := [(2, .int (0 : Int32)), (0, va_rf a0), (1, .int a1)]) dX12_perform_19 rfl (by decide) rfl ?_
    refine mm_sub C [1, 2, 0] rfl ?_
    exact w_X12_perform_20 hd C _ _ _ _ _ hK
  · replace hK := mm_in hc hK
    refine mm_iconst C (pc := 16) (v := (0 : Int32)) dX12_perform_16 (by decide) ?_
    cases hK
    exact mm_iret C (pc := 17) rfl dX12_perform_17 rfl rfl
theorem wd_2486 : Cond.constant RX12 396 (1103515245 : Int32) ∈ lw_good := mm_wd 2486 (by decide +kernel) (by decide +kernel)
theorem wd_2024 : Cond.fieldLink RX12 397 "CrossedLinesModel" "state" "I" ∈ lw_good := mm_wd 2024 (by decide +kernel) (by decide +kernel)
def F_X12_draw (a0 : Option Nat) (a1 : Int32) (h : MH) : Option (Int32 × MH) := (gI h a0 12 25).bind fun v5 => (pI h a0 12 25 (((1103515245 : Int32) * v5) + (12345 : Int32))).bind fun h13 => (gI h13 a0 12 25).bind fun v17 => if a1 = 0 then none else some ((((v17.toUInt32 >>> ((16 : Int32).toUInt32 &&& Int32.toUInt32 31)).toInt32) - ((v17.toUInt32 >>> ((16 : Int32).toUInt32 &&& Int32.toUInt32 31)).toInt32) / a1 * a1), h13)
set_option maxRecDepth 20000 in
set_option maxHeartbeats 4000000 in
theorem S_X12_draw {d : Nat} (hd : 1 ≤ d) {a0 : Option Nat} {a1 : Int32} {h : MH} {r : Int32} {hz : MH} (hK : F_X12_draw a0 a1 h = some (r, hz)) : mm_M yX12_draw cX12_draw 2 (some .int) d [va_rf a0, .int a1] h (.inr (some (.int r))) hz := by
  refine mm_ofV (by decide +kernel) (by simp [lg_sl, mm_crf, mm_cti, mm_ctl]) (fun V C => ?_)
  rw [show lv_args 0 [va_rf a0, .int a1] = [(0, va_rf a0), (1, .int a1)] by simp [lv_args, mm_crf, mm_cti, mm_ctl]]
  unfold F_X12_draw at hK
  refine mm_aload_n C (pc := 0) 0 dX12_draw_0 rfl ?_
  refine mm_ldcw C (pc := 1) (v := (1103515245 : Int32)) dX12_draw_1 wd_2486 ?_
  refine mm_aload_n C (pc := 4) 0 dX12_draw_4 rfl ?_
  replace hK := mm_bd hK; obtain ⟨v5, e5, hK⟩ := hK
  refine mm_geti C (pc := 5) (k := 25) inGX12 rfl (by decide) wd_2024 dX12_draw_5 e5 ?_
  refine mm_imul C (pc := 8) dX12_draw_8 ?_
  refine mm_sipush C (pc := 9) (v := (12345 : Int32)) dX12_draw_9 (by decide) ?_
  refine mm_iadd C (pc := 12) dX12_draw_12 ?_
  replace hK := mm_bd hK; obtain ⟨h13, e13, hK⟩ := hK
  refine mm_puti C (pc := 13) (k := 25) false (fun z => by cases z) inGX12 tyX12 tyX12_ok nmX12 rfl (by decide) wd_2024 rfl rfl dX12_draw_13 e13 ?_
  refine mm_aload_n C (pc := 16) 0 dX12_draw_16 rfl ?_
  replace hK := mm_bd hK; obtain ⟨v17, e17, hK⟩ := hK
  refine mm_geti C (pc := 17) (k := 25) inGX12 rfl (by decide) wd_2024 dX12_draw_17 e17 ?_
  refine mm_bipush C (pc := 20) (v := (16 : Int32)) dX12_draw_20 (by decide) ?_
  refine mm_iushr C (pc := 22) dX12_draw_22 ?_
  refine mm_iload_n C (pc := 23) 1 dX12_draw_23 rfl ?_
  by_cases hz24 : a1 = 0
  · rw [if_pos hz24] at hK; cases hK
  replace hK := mm_in hz24 hK
  refine mm_irem C (pc := 24) dX12_draw_24 hz24 ?_
  cases hK
  exact mm_iret C (pc := 25) rfl dX12_draw_25 rfl rfl
theorem wd_2485 : Cond.code yX12_draw cX12_draw 2 (some .int) ∈ lw_good := mm_wd 2485 (by decide +kernel) (by decide +kernel)
theorem tT_X12_draw : mm_T yX12_draw cX12_draw 2 (some .int) 1 := ⟨wd_2485, wd_170, by decide +kernel, by decide +kernel, by decide +kernel, by decide +kernel⟩
theorem wd_2482 : Cond.methodLink RX12 402 yX12_draw ∈ lw_good := mm_wd 2482 (by decide +kernel) (by decide +kernel)
theorem wd_2484 : Cond.instanceMethod yX12_draw ∈ lw_good := mm_wd 2484 (by decide +kernel) (by decide +kernel)
theorem wd_111 : Cond.selects RX12 yX12_draw yX12_draw ∈ lw_good := mm_wd 111 (by decide +kernel) (by decide +kernel)
def F_X12_drawn_54 (s0 : Int32) (h : MH) : Option (Int32 × MH) := some (s0, h)
set_option maxRecDepth 20000 in
set_option maxHeartbeats 4000000 in
theorem w_X12_drawn_54 {d : Nat} {V : Nat → List (Nat × Value) → List Value → MH → Prop} {r : Int32} {hz : MH} (hd : 2 ≤ d) (C : mm_C d yX12_drawn cX12_drawn 3 (some .int) (.inr (some (.int r))) hz V) (s0 : Int32) (h : MH) (hK : F_X12_drawn_54 s0 h = some (r, hz)) : V 54 [] [.int s0] h := by
  unfold F_X12_drawn_54 at hK
  cases hK
  exact mm_iret C (pc := 54) rfl dX12_drawn_54 rfl rfl
def F_X12_drawn (a0 : Option Nat) (a1 : Int32) (h : MH) : Option (Int32 × MH) := if a1 = (4 : Int32) then (mm_b2 (cV h a0 12 (F_X12_draw a0 (10 : Int32) h)) fun v11 h11 => some (((200 : Int32) + v11), h11)) else ((gR h a0 12 0).bind fun v18 => (aI h v18 0 (1 : Int32)).bind fun v22 => mm_b2 (cV h a0 12 (F_X12_draw a0 v22 h)) fun v23 h23 => if a1 = (3 : Int32) then (F_X12_drawn_54 ((100 : Int32) + v23) h23) else ((gR h23 a0 12 0).bind fun v45 => (aI h23 v45 0 (1 : Int32)).bind fun v49 => mm_b2 (cV h23 a0 12 (F_X12_draw a0 v49 h23)) fun v50 h50 => F_X12_drawn_54 (((10 : Int32) * v23) + v50) h50))
set_option maxRecDepth 20000 in
set_option maxHeartbeats 4000000 in
theorem S_X12_drawn {d : Nat} (hd : 2 ≤ d) {a0 : Option Nat} {a1 : Int32} {h : MH} {r : Int32} {hz : MH} (hK : F_X12_drawn a0 a1 h = some (r, hz)) : mm_M yX12_drawn cX12_drawn 3 (some .int) d [va_rf a0, .int a1] h (.inr (some (.int r))) hz := by
  refine mm_ofV (by decide +kernel) (by simp [lg_sl, mm_crf, mm_cti, mm_ctl]) (fun V C => ?_)
  rw [show lv_args 0 [va_rf a0, .int a1] = [(0, va_rf a0), (1, .int a1)] by simp [lv_args, mm_crf, mm_cti, mm_ctl]]
  unfold F_X12_drawn at hK
  refine mm_iload_n C (pc := 0) 1 dX12_drawn_0 rfl ?_
  refine mm_iconst C (pc := 1) (v := (4 : Int32)) dX12_drawn_1 (by decide) ?_
  refine mm_icmp_ne C (pc := 2) (tgt := 16) dX12_drawn_2 (by decide) (fun hc => ?_) (fun hc => ?_)
  · replace hK := mm_in hc hK
    refine mm_aload_n C (pc := 16) 0 dX12_drawn_16 rfl ?_
    refine mm_aload_n C (pc := 17) 0 dX12_drawn_17 rfl ?_
    replace hK := mm_bd hK; obtain ⟨v18, e18, hK⟩ := hK
    refine mm_getr C (pc := 18) (k := 0) inGX12 rfl (by decide) wd_1999 dX12_drawn_18 e18 ?_
    refine mm_iconst C (pc := 21) (v := (1 : Int32)) dX12_drawn_21 (by decide) ?_
    replace hK := mm_bd hK; obtain ⟨v22, e22, hK⟩ := hK
    refine mm_iald C (pc := 22) dX12_drawn_22 e22 ?_
    replace hK := mm_b2s hK; obtain ⟨v23, h23, e23, hK⟩ := hK
    obtain ⟨o23, e23⟩ := cV_some e23
    refine mm_callV C (pc := 23) (d1 := 1) (As := [.int v22]) (st := []) (vk := (some (.int v23))) ((S_X12_draw (by omega)) e23) tT_X12_draw o23 (Or.inr ⟨_, rfl, rfl⟩) wd_2482 wd_2484 wd_111 (by omega) (by decide) rfl (by simp [mm_crf, mm_cti, mm_ctl]) rfl dX12_drawn_23 ?_
    show V _ _ (.int v23 :: _) _
    refine mm_istore_n C (pc := 26) (i := 2) (lv' := [(2, .int v23), (0, va_rf a0), (1, .int a1)]) dX12_drawn_26 rfl (by decide) rfl ?_
    refine mm_iload_n C (pc := 27) 2 dX12_drawn_27 rfl ?_
    refine mm_iconst C (pc := 28) (v := (3 : Int32)) dX12_drawn_28 (by decide) ?_
    refine mm_icmp_ne C (pc := 29) (tgt := 39) dX12_drawn_29 (by decide) (fun hc => ?_) (fun hc => ?_)
    · replace hK := mm_in hc hK
      refine mm_bipush C (pc := 39) (v := (10 : Int32)) dX12_drawn_39 (by decide) ?_
      refine mm_iload_n C (pc := 41) 0 dX12_drawn_41 rfl ?_
      refine mm_imul C (pc := 42) dX12_drawn_42 ?_
      refine mm_aload_n C (pc := 43) 1 dX12_drawn_43 rfl ?_
      refine mm_aload_n C (pc := 44) 1 dX12_drawn_44 rfl ?_
      replace hK := mm_bd hK; obtain ⟨v45, e45, hK⟩ := hK
      refine mm_getr C (pc := 45) (k := 0) inGX12 rfl (by decide) wd_1999 dX12_drawn_45 e45 ?_
      refine mm_iconst C (pc := 48) (v := (1 : Int32)) dX12_drawn_48 (by decide) ?_
      replace hK := mm_bd hK; obtain ⟨v49, e49, hK⟩ := hK
      refine mm_iald C (pc := 49) dX12_drawn_49 e49 ?_
      replace hK := mm_b2s hK; obtain ⟨v50, h50, e50, hK⟩ := hK
      obtain ⟨o50, e50⟩ := cV_some e50
      refine mm_callV C (pc := 50) (d1 := 1) (As := [.int v49]) (st := [.int ((10 : Int32) * v23)]) (vk := (some (.int v50))) ((S_X12_draw (by omega)) e50) tT_X12_draw o50 (Or.inr ⟨_, rfl, rfl⟩) wd_2482 wd_2484 wd_111 (by omega) (by decide) rfl (by simp [mm_crf, mm_cti, mm_ctl]) rfl dX12_drawn_50 ?_
      show V _ _ (.int v50 :: _) _
      refine mm_iadd C (pc := 53) dX12_drawn_53 ?_
      refine mm_sub C [] rfl ?_
      exact w_X12_drawn_54 hd C _ _ hK
    · replace hK := mm_ip hc hK
      refine mm_bipush C (pc := 32) (v := (100 : Int32)) dX12_drawn_32 (by decide) ?_
      refine mm_iload_n C (pc := 34) 0 dX12_drawn_34 rfl ?_
      refine mm_iadd C (pc := 35) dX12_drawn_35 ?_
      refine mm_goto C (pc := 36) (tgt := 54) dX12_drawn_36 (by decide) ?_
      refine mm_sub C [] rfl ?_
      exact w_X12_drawn_54 hd C _ _ hK
  · replace hK := mm_ip hc hK
    refine mm_sipush C (pc := 5) (v := (200 : Int32)) dX12_drawn_5 (by decide) ?_
    refine mm_aload_n C (pc := 8) 0 dX12_drawn_8 rfl ?_
    refine mm_bipush C (pc := 9) (v := (10 : Int32)) dX12_drawn_9 (by decide) ?_
    replace hK := mm_b2s hK; obtain ⟨v11, h11, e11, hK⟩ := hK
    obtain ⟨o11, e11⟩ := cV_some e11
    refine mm_callV C (pc := 11) (d1 := 1) (As := [.int (10 : Int32)]) (st := [.int (200 : Int32)]) (vk := (some (.int v11))) ((S_X12_draw (by omega)) e11) tT_X12_draw o11 (Or.inr ⟨_, rfl, rfl⟩) wd_2482 wd_2484 wd_111 (by omega) (by decide) rfl (by simp [mm_crf, mm_cti, mm_ctl]) rfl dX12_drawn_11 ?_
    show V _ _ (.int v11 :: _) _
    refine mm_iadd C (pc := 14) dX12_drawn_14 ?_
    cases hK
    exact mm_iret C (pc := 15) rfl dX12_drawn_15 rfl rfl
theorem wd_2481 : Cond.constantLong RX12 400 (30 : Int64) ∈ lw_good := mm_wd 2481 (by decide +kernel) (by decide +kernel)
theorem wd_2490 : Cond.code yX12_drawn cX12_drawn 3 (some .int) ∈ lw_good := mm_wd 2490 (by decide +kernel) (by decide +kernel)
theorem tT_X12_drawn : mm_T yX12_drawn cX12_drawn 3 (some .int) 1 := ⟨wd_2490, wd_170, by decide +kernel, by decide +kernel, by decide +kernel, by decide +kernel⟩
theorem wd_2487 : Cond.methodLink RX12 405 yX12_drawn ∈ lw_good := mm_wd 2487 (by decide +kernel) (by decide +kernel)
theorem wd_2489 : Cond.instanceMethod yX12_drawn ∈ lw_good := mm_wd 2489 (by decide +kernel) (by decide +kernel)
theorem wd_112 : Cond.selects RX12 yX12_drawn yX12_drawn ∈ lw_good := mm_wd 112 (by decide +kernel) (by decide +kernel)
def F_X12_spring_90 (k33 : Option Nat → Int32 → Int32 → Int32 → MH → Option (Int32 × MH)) (l0 : Option Nat) (l2 : Int32) (l3 : Int32) (l4 : Int32) (h : MH) : Option (Int32 × MH) := k33 l0 l2 l3 (l4 + (1 : Int32)) h
set_option maxRecDepth 20000 in
set_option maxHeartbeats 4000000 in
theorem w_X12_spring_90 {d : Nat} {V : Nat → List (Nat × Value) → List Value → MH → Prop} {r : Int32} {hz : MH} {k33 : Option Nat → Int32 → Int32 → Int32 → MH → Option (Int32 × MH)} (hd : 9 ≤ d) (C : mm_C d yX12_spring cX12_spring 7 (some .int) (.inr (some (.int r))) hz V) (q33 : ∀ (x0 : Option Nat) (x1 : Int32) (x2 : Int32) (x3 : Int32) (h : MH), k33 x0 x1 x2 x3 h = some (r, hz) → V 33 [(0, va_rf x0), (2, .int x1), (3, .int x2), (4, .int x3)] [] h) (l0 : Option Nat) (l2 : Int32) (l3 : Int32) (l4 : Int32) (h : MH) (hK : F_X12_spring_90 k33 l0 l2 l3 l4 h = some (r, hz)) : V 90 [(0, va_rf l0), (2, .int l2), (3, .int l3), (4, .int l4)] [] h := by
  unfold F_X12_spring_90 at hK
  refine mm_iinc C (pc := 90) (v := (l4 + (1 : Int32))) (lv' := [(4, .int (l4 + (1 : Int32))), (0, va_rf l0), (2, .int l2), (3, .int l3)]) 3 dX12_spring_90 rfl rfl (by decide) rfl ?_
  refine mm_goto C (pc := 93) (tgt := 33) dX12_spring_93 (by decide) ?_
  refine mm_sub C [1, 2, 3, 0] rfl ?_
  exact q33 _ _ _ _ _ hK
def F_X12_spring_62 (k33 : Option Nat → Int32 → Int32 → Int32 → MH → Option (Int32 × MH)) (l0 : Option Nat) (l2 : Int32) (l3 : Int32) (l4 : Int32) (s0 : Int32) (h : MH) : Option (Int32 × MH) := mm_b2 (cV h l0 12 (F_X12_whyTold l0 (s0.toInt64) h)) fun v68 h68 => if v68 = 0 then ((cV h68 l0 12 (F_X12_keeps l0 h68)).bind fun h78 => (cV h78 l0 12 (F_X12_does l0 s0 h78)).bind fun h84 => F_X12_spring_90 k33 l0 l2 (l3 + (1 : Int32)) l4 h84) else (F_X12_spring_90 k33 l0 l2 l3 l4 h68)
set_option maxRecDepth 20000 in
set_option maxHeartbeats 4000000 in
theorem w_X12_spring_62 {d : Nat} {V : Nat → List (Nat × Value) → List Value → MH → Prop} {r : Int32} {hz : MH} {k33 : Option Nat → Int32 → Int32 → Int32 → MH → Option (Int32 × MH)} (hd : 9 ≤ d) (C : mm_C d yX12_spring cX12_spring 7 (some .int) (.inr (some (.int r))) hz V) (q33 : ∀ (x0 : Option Nat) (x1 : Int32) (x2 : Int32) (x3 : Int32) (h : MH), k33 x0 x1 x2 x3 h = some (r, hz) → V 33 [(0, va_rf x0), (2, .int x1), (3, .int x2), (4, .int x3)] [] h) (l0 : Option Nat) (l2 : Int32) (l3 : Int32) (l4 : Int32) (s0 : Int32) (h : MH) (hK : F_X12_spring_62 k33 l0 l2 l3 l4 s0 h = some (r, hz)) : V 62 [(0, va_rf l0), (2, .int l2), (3, .int l3), (4, .int l4)] [.int s0] h := by
  unfold F_X12_spring_62 at hK
  refine mm_istore C (pc := 62) (i := 6) (lv' := [(6, .int s0), (0, va_rf l0), (2, .int l2), (3, .int l3), (4, .int l4)]) dX12_spring_62 (by decide) rfl ?_
  refine mm_aload_n C (pc := 64) 1 dX12_spring_64 rfl ?_
  refine mm_iload C (pc := 65) 0 dX12_spring_65 rfl ?_
  refine mm_i2l C (pc := 67) dX12_spring_67 ?_
  replace hK := mm_b2s hK; obtain ⟨v68, h68, e68, hK⟩ := hK
  obtain ⟨o68, e68⟩ := cV_some e68
  refine mm_callV C (pc := 68) (d1 := 4) (As := [.long (s0.toInt64)]) (st := []) (vk := (some (.int v68))) ((S_X12_whyTold (by omega)) e68) tT_X12_whyTold o68 (Or.inr ⟨_, rfl, rfl⟩) wd_2448 wd_2450 wd_106 (by omega) (by decide) rfl (by simp [mm_crf, mm_cti, mm_ctl]) rfl dX12_spring_68 ?_
  show V _ _ (.int v68 :: _) _
  refine mm_if_eq C (pc := 71) (tgt := 77) dX12_spring_71 (by decide) (fun hc => ?_) (fun hc => ?_)
  · replace hK := mm_ip hc hK
    refine mm_aload_n C (pc := 77) 1 dX12_spring_77 rfl ?_
    replace hK := mm_bd hK; obtain ⟨h78, e78, hK⟩ := hK
    obtain ⟨o78, e78⟩ := cV_some e78
    refine mm_callV C (pc := 78) (d1 := 1) (As := []) (st := []) (vk := none) ((S_X12_keeps (by omega)) e78) tT_X12_keeps o78 (Or.inr ⟨_, rfl, rfl⟩) wd_2388 wd_2390 wd_98 (by omega) (by decide) rfl (by simp [mm_crf, mm_cti, mm_ctl]) rfl dX12_spring_78 ?_
    show V _ _ [] _
    refine mm_aload_n C (pc := 81) 1 dX12_spring_81 rfl ?_
    refine mm_iload C (pc := 82) 0 dX12_spring_82 rfl ?_
    replace hK := mm_bd hK; obtain ⟨h84, e84, hK⟩ := hK
    obtain ⟨o84, e84⟩ := cV_some e84
    refine mm_callV C (pc := 84) (d1 := 8) (As := [.int s0]) (st := []) (vk := none) ((S_X12_does (by omega)) e84) tT_X12_does o84 (Or.inr ⟨_, rfl, rfl⟩) wd_2457 wd_2459 wd_107 (by omega) (by decide) rfl (by simp [mm_crf, mm_cti, mm_ctl]) rfl dX12_spring_84 ?_
    show V _ _ [] _
    refine mm_iinc C (pc := 87) (v := (l3 + (1 : Int32))) (lv' := [(3, .int (l3 + (1 : Int32))), (6, .int s0), (0, va_rf l0), (2, .int l2), (4, .int l4)]) 3 dX12_spring_87 rfl rfl (by decide) rfl ?_
    refine mm_sub C [2, 3, 0, 4] rfl ?_
    exact w_X12_spring_90 hd C (fun z0 z1 z2 z3 z4 hK => q33 z0 z1 z2 z3 z4 hK) _ _ _ _ _ hK
  · replace hK := mm_in hc hK
    refine mm_goto C (pc := 74) (tgt := 90) dX12_spring_74 (by decide) ?_
    refine mm_sub C [1, 2, 3, 4] rfl ?_
    exact w_X12_spring_90 hd C (fun z0 z1 z2 z3 z4 hK => q33 z0 z1 z2 z3 z4 hK) _ _ _ _ _ hK
def F_X12_spring_33 : Nat → Option Nat → Int32 → Int32 → Int32 → MH → Option (Int32 × MH)
  | 0 => fun _ _ _ _ _ => none
  | n + 1 => fun l0 l2 l3 l4 h => if l2 ≤ l4 then (some (l3, h)) else (mm_b2 (cV h l0 12 (F_X12_draw l0 (5 : Int32) h)) fun v41 h41 => if (2 : Int32) ≤ v41 then (mm_b2 (cV h41 l0 12 (F_X12_drawn l0 v41 h41)) fun v59 h59 => F_X12_spring_62 (F_X12_spring_33 n) l0 l2 l3 l4 v59 h59) else (F_X12_spring_62 (F_X12_spring_33 n) l0 l2 l3 l4 ((-1) : Int32) h41))
set_option maxRecDepth 20000 in
set_option maxHeartbeats 4000000 in
theorem w_X12_spring_33 {d : Nat} {V : Nat → List (Nat × Value) → List Value → MH → Prop} {r : Int32} {hz : MH} (hd : 9 ≤ d) (C : mm_C d yX12_spring cX12_spring 7 (some .int) (.inr (some (.int r))) hz V) : ∀ (n : Nat) (l0 : Option Nat) (l2 : Int32) (l3 : Int32) (l4 : Int32) (h : MH), F_X12_spring_33 n l0 l2 l3 l4 h = some (r, hz) → V 33 [(0, va_rf l0), (2, .int l2), (3, .int l3), (4, .int l4)] [] h := by
  intro n
  induction n with
  | zero => intro l0 l2 l3 l4 h hK; cases hK
  | succ n ih =>
    intro l0 l2 l3 l4 h hK
    replace hK : (if l2 ≤ l4 then (some (l3, h)) else (mm_b2 (cV h l0 12 (F_X12_draw l0 (5 : Int32) h)) fun v41 h41 => if (2 : Int32) ≤ v41 then (mm_b2 (cV h41 l0 12 (F_X12_drawn l0 v41 h41)) fun v59 h59 => F_X12_spring_62 (F_X12_spring_33 n) l0 l2 l3 l4 v59 h59) else (F_X12_spring_62 (F_X12_spring_33 n) l0 l2 l3 l4 ((-1) : Int32) h41))) = some (r, hz) := hK
    refine mm_iload C (pc := 33) 3 dX12_spring_33 rfl ?_
    refine mm_iload_n C (pc := 35) 1 dX12_spring_35 rfl ?_
    refine mm_icmp_ge C (pc := 36) (tgt := 96) dX12_spring_36 (by decide) (fun hc => ?_) (fun hc => ?_)
    · replace hK := mm_ip hc hK
      refine mm_iload_n C (pc := 96) 2 dX12_spring_96 rfl ?_
      cases hK
      exact mm_iret C (pc := 97) rfl dX12_spring_97 rfl rfl
    · replace hK := mm_in hc hK
      refine mm_aload_n C (pc := 39) 0 dX12_spring_39 rfl ?_
      refine mm_iconst C (pc := 40) (v := (5 : Int32)) dX12_spring_40 (by decide) ?_
      replace hK := mm_b2s hK; obtain ⟨v41, h41, e41, hK⟩ := hK
      obtain ⟨o41, e41⟩ := cV_some e41
      refine mm_callV C (pc := 41) (d1 := 1) (As := [.int (5 : Int32)]) (st := []) (vk := (some (.int v41))) ((S_X12_draw (by omega)) e41) tT_X12_draw o41 (Or.inr ⟨_, rfl, rfl⟩) wd_2482 wd_2484 wd_111 (by omega) (by decide) rfl (by simp [mm_crf, mm_cti, mm_ctl]) rfl dX12_spring_41 ?_
      show V _ _ (.int v41 :: _) _
      refine mm_istore C (pc := 44) (i := 5) (lv' := [(5, .int v41), (0, va_rf l0), (2, .int l2), (3, .int l3), (4, .int l4)]) dX12_spring_44 (by decide) rfl ?_
      refine mm_iload C (pc := 46) 0 dX12_spring_46 rfl ?_
      refine mm_iconst C (pc := 48) (v := (2 : Int32)) dX12_spring_48 (by decide) ?_
      refine mm_icmp_ge C (pc := 49) (tgt := 56) dX12_spring_49 (by decide) (fun hc => ?_) (fun hc => ?_)
      · replace hK := mm_ip hc hK
        refine mm_aload_n C (pc := 56) 1 dX12_spring_56 rfl ?_
        refine mm_iload C (pc := 57) 0 dX12_spring_57 rfl ?_
        replace hK := mm_b2s hK; obtain ⟨v59, h59, e59, hK⟩ := hK
        obtain ⟨o59, e59⟩ := cV_some e59
        refine mm_callV C (pc := 59) (d1 := 2) (As := [.int v41]) (st := []) (vk := (some (.int v59))) ((S_X12_drawn (by omega)) e59) tT_X12_drawn o59 (Or.inr ⟨_, rfl, rfl⟩) wd_2487 wd_2489 wd_112 (by omega) (by decide) rfl (by simp [mm_crf, mm_cti, mm_ctl]) rfl dX12_spring_59 ?_
        show V _ _ (.int v59 :: _) _
        refine mm_sub C [1, 2, 3, 4] rfl ?_
        exact w_X12_spring_62 hd C (fun z0 z1 z2 z3 z4 hK => ih z0 z1 z2 z3 z4 hK) _ _ _ _ _ _ hK
      · replace hK := mm_in hc hK
        refine mm_iconst C (pc := 52) (v := ((-1) : Int32)) dX12_spring_52 (by decide) ?_
        refine mm_goto C (pc := 53) (tgt := 62) dX12_spring_53 (by decide) ?_
        refine mm_sub C [1, 2, 3, 4] rfl ?_
        exact w_X12_spring_62 hd C (fun z0 z1 z2 z3 z4 hK => ih z0 z1 z2 z3 z4 hK) _ _ _ _ _ _ hK
def F_X12_spring (a0 : Option Nat) (a1 : Int32) (a2 : Int32) (h : MH) : Option (Int32 × MH) := (pI h a0 12 4 (0 : Int32)).bind fun h2 => mm_b2 (F_X12_within (a2.toInt64) (1 : Int64) (30 : Int64) h2) fun v11 h11 => if v11 = 0 then (mm_b2 (cV h11 a0 12 (F_X12_fails a0 (1 : Int32) h11)) fun v19 h19 => some (v19, h19)) else ((pI h11 a0 12 25 a1).bind fun h25 => F_X12_spring_33 mm_N a0 a2 (0 : Int32) (0 : Int32) h25)
set_option maxRecDepth 20000 in
set_option maxHeartbeats 4000000 in
theorem S_X12_spring {d : Nat} (hd : 9 ≤ d) {a0 : Option Nat} {a1 : Int32} {a2 : Int32} {h : MH} {r : Int32} {hz : MH} (hK : F_X12_spring a0 a1 a2 h = some (r, hz)) : mm_M yX12_spring cX12_spring 7 (some .int) d [va_rf a0, .int a1, .int a2] h (.inr (some (.int r))) hz := by
  refine mm_ofV (by decide +kernel) (by simp [lg_sl, mm_crf, mm_cti, mm_ctl]) (fun V C => ?_)
  rw [show lv_args 0 [va_rf a0, .int a1, .int a2] = [(0, va_rf a0), (1, .int a1), (2, .int a2)] by simp [lv_args, mm_crf, mm_cti, mm_ctl]]
  unfold F_X12_spring at hK
  refine mm_aload_n C (pc := 0) 0 dX12_spring_0 rfl ?_
  refine mm_iconst C (pc := 1) (v := (0 : Int32)) dX12_spring_1 (by decide) ?_
  replace hK := mm_bd hK; obtain ⟨h2, e2, hK⟩ := hK
  refine mm_puti C (pc := 2) (k := 4) false (fun z => by cases z) inGX12 tyX12 tyX12_ok nmX12 rfl (by decide) wd_2003 rfl rfl dX12_spring_2 e2 ?_
  refine mm_iload_n C (pc := 5) 2 dX12_spring_5 rfl ?_
  refine mm_i2l C (pc := 6) dX12_spring_6 ?_
  refine mm_lconst C (pc := 7) (v := (1 : Int64)) dX12_spring_7 (by decide) ?_
  refine mm_ldc2 C (pc := 8) (v := (30 : Int64)) dX12_spring_8 wd_2481 ?_
  replace hK := mm_b2s hK; obtain ⟨v11, h11, e11, hK⟩ := hK
  refine mm_callS C (pc := 11) (d1 := 1) (As := [.long (a2.toInt64), .long (1 : Int64), .long (30 : Int64)]) (st := []) (vk := (some (.int v11))) ((S_X12_within (by omega)) e11) tT_X12_within wd_2157 wd_2158 (by omega) (by decide) rfl (by simp [mm_crf, mm_cti, mm_ctl]) rfl dX12_spring_11 ?_
  show V _ _ (.int v11 :: _) _
  refine mm_if_ne C (pc := 14) (tgt := 23) dX12_spring_14 (by decide) (fun hc => ?_) (fun hc => ?_)
  · replace hK := mm_in hc hK
    refine mm_aload_n C (pc := 23) 0 dX12_spring_23 rfl ?_
    refine mm_iload_n C (pc := 24) 1 dX12_spring_24 rfl ?_
    replace hK := mm_bd hK; obtain ⟨h25, e25, hK⟩ := hK
    refine mm_puti C (pc := 25) (k := 25) false (fun z => by cases z) inGX12 tyX12 tyX12_ok nmX12 rfl (by decide) wd_2024 rfl rfl dX12_spring_25 e25 ?_
    refine mm_iconst C (pc := 28) (v := (0 : Int32)) dX12_spring_28 (by decide) ?_
    refine mm_istore_n C (pc := 29) (i := 3) (lv' := [(3, .int (0 : Int32)), (0, va_rf a0), (1, .int a1), (2, .int a2)]) dX12_spring_29 rfl (by decide) rfl ?_
    refine mm_iconst C (pc := 30) (v := (0 : Int32)) dX12_spring_30 (by decide) ?_
    refine mm_istore C (pc := 31) (i := 4) (lv' := [(4, .int (0 : Int32)), (3, .int (0 : Int32)), (0, va_rf a0), (1, .int a1), (2, .int a2)]) dX12_spring_31 (by decide) rfl ?_
    refine mm_sub C [2, 4, 1, 0] rfl ?_
    exact w_X12_spring_33 hd C _ _ _ _ _ _ hK
  · replace hK := mm_ip hc hK
    refine mm_aload_n C (pc := 17) 0 dX12_spring_17 rfl ?_
    refine mm_iconst C (pc := 18) (v := (1 : Int32)) dX12_spring_18 (by decide) ?_
    replace hK := mm_b2s hK; obtain ⟨v19, h19, e19, hK⟩ := hK
    obtain ⟨o19, e19⟩ := cV_some e19
    refine mm_callV C (pc := 19) (d1 := 1) (As := [.int (1 : Int32)]) (st := []) (vk := (some (.int v19))) ((S_X12_fails (by omega)) e19) tT_X12_fails o19 (Or.inr ⟨_, rfl, rfl⟩) wd_2160 wd_2162 wd_61 (by omega) (by decide) rfl (by simp [mm_crf, mm_cti, mm_ctl]) rfl dX12_spring_19 ?_
    show V _ _ (.int v19 :: _) _
    cases hK
    exact mm_iret C (pc := 22) rfl dX12_spring_22 rfl rfl
def F_X12_isSoon (a0 : Int32) (h : MH) : Option (Int32 × MH) := mm_b2 (F_X12_within (a0.toInt64) (1 : Int64) (999 : Int64) h) fun v6 h6 => rZ v6 h6
set_option maxRecDepth 20000 in
set_option maxHeartbeats 4000000 in
theorem S_X12_isSoon {d : Nat} (hd : 2 ≤ d) {a0 : Int32} {h : MH} {r : Int32} {hz : MH} (hK : F_X12_isSoon a0 h = some (r, hz)) : mm_M yX12_isSoon cX12_isSoon 1 (some .boolean) d [.int a0] h (.inr (some (.int r))) hz := by
  refine mm_ofV (by decide +kernel) (by simp [lg_sl, mm_crf, mm_cti, mm_ctl]) (fun V C => ?_)
  rw [show lv_args 0 [.int a0] = [(0, .int a0)] by simp [lv_args, mm_crf, mm_cti, mm_ctl]]
  unfold F_X12_isSoon at hK
  refine mm_iload_n C (pc := 0) 0 dX12_isSoon_0 rfl ?_
  refine mm_i2l C (pc := 1) dX12_isSoon_1 ?_
  refine mm_lconst C (pc := 2) (v := (1 : Int64)) dX12_isSoon_2 (by decide) ?_
  refine mm_ldc2 C (pc := 3) (v := (999 : Int64)) dX12_isSoon_3 wd_2370 ?_
  replace hK := mm_b2s hK; obtain ⟨v6, h6, e6, hK⟩ := hK
  refine mm_callS C (pc := 6) (d1 := 1) (As := [.long (a0.toInt64), .long (1 : Int64), .long (999 : Int64)]) (st := []) (vk := (some (.int v6))) ((S_X12_within (by omega)) e6) tT_X12_within wd_2157 wd_2158 (by omega) (by decide) rfl (by simp [mm_crf, mm_cti, mm_ctl]) rfl dX12_isSoon_6 ?_
  show V _ _ (.int v6 :: _) _
  replace hK := rZ_some hK; obtain ⟨hv9, hK⟩ := hK
  cases hK
  exact mm_zret C (pc := 9) rfl (mm_nrZ hv9) dX12_isSoon_9 rfl rfl
def F_X12_lostFromHere_4 : Nat → Option Nat → Int32 → Int32 → Int32 → MH → Option (Int32 × MH)
  | 0 => fun _ _ _ _ _ => none
  | n + 1 => fun l0 l1 l2 l3 h => if l1 ≤ l3 then ((cV h l0 12 (F_X12_putsBack l0 h)).bind fun h27 => some (l2, h27)) else ((cV h l0 12 (F_X12_minute l0 h)).bind fun h10 => (gI h10 l0 12 22).bind fun v15 => F_X12_lostFromHere_4 n l0 l1 (l2 ||| v15) (l3 + (1 : Int32)) h10)
set_option maxRecDepth 20000 in
set_option maxHeartbeats 4000000 in
theorem w_X12_lostFromHere_4 {d : Nat} {V : Nat → List (Nat × Value) → List Value → MH → Prop} {r : Int32} {hz : MH} (hd : 8 ≤ d) (C : mm_C d yX12_lostFromHere cX12_lostFromHere 4 (some .int) (.inr (some (.int r))) hz V) : ∀ (n : Nat) (l0 : Option Nat) (l1 : Int32) (l2 : Int32) (l3 : Int32) (h : MH), F_X12_lostFromHere_4 n l0 l1 l2 l3 h = some (r, hz) → V 4 [(0, va_rf l0), (1, .int l1), (2, .int l2), (3, .int l3)] [] h := by
  intro n
  induction n with
  | zero => intro l0 l1 l2 l3 h hK; cases hK
  | succ n ih =>
    intro l0 l1 l2 l3 h hK
    replace hK : (if l1 ≤ l3 then ((cV h l0 12 (F_X12_putsBack l0 h)).bind fun h27 => some (l2, h27)) else ((cV h l0 12 (F_X12_minute l0 h)).bind fun h10 => (gI h10 l0 12 22).bind fun v15 => F_X12_lostFromHere_4 n l0 l1 (l2 ||| v15) (l3 + (1 : Int32)) h10)) = some (r, hz) := hK
    refine mm_iload_n C (pc := 4) 3 dX12_lostFromHere_4 rfl ?_
    refine mm_iload_n C (pc := 5) 1 dX12_lostFromHere_5 rfl ?_
    refine mm_icmp_ge C (pc := 6) (tgt := 26) dX12_lostFromHere_6 (by decide) (fun hc => ?_) (fun hc => ?_)
    · replace hK := mm_ip hc hK
      refine mm_aload_n C (pc := 26) 0 dX12_lostFromHere_26 rfl ?_
      replace hK := mm_bd hK; obtain ⟨h27, e27, hK⟩ := hK
      obtain ⟨o27, e27⟩ := cV_some e27
      refine mm_callV C (pc := 27) (d1 := 1) (As := []) (st := []) (vk := none) ((S_X12_putsBack (by omega)) e27) tT_X12_putsBack o27 (Or.inr ⟨_, rfl, rfl⟩) wd_2469 wd_2471 wd_110 (by omega) (by decide) rfl (by simp [mm_crf, mm_cti, mm_ctl]) rfl dX12_lostFromHere_27 ?_
      show V _ _ [] _
      refine mm_iload_n C (pc := 30) 2 dX12_lostFromHere_30 rfl ?_
      cases hK
      exact mm_iret C (pc := 31) rfl dX12_lostFromHere_31 rfl rfl
    · replace hK := mm_in hc hK
      refine mm_aload_n C (pc := 9) 0 dX12_lostFromHere_9 rfl ?_
      replace hK := mm_bd hK; obtain ⟨h10, e10, hK⟩ := hK
      obtain ⟨o10, e10⟩ := cV_some e10
      refine mm_callV C (pc := 10) (d1 := 7) (As := []) (st := []) (vk := none) ((S_X12_minute (by omega)) e10) tT_X12_minute o10 (Or.inr ⟨_, rfl, rfl⟩) wd_2408 wd_2410 wd_100 (by omega) (by decide) rfl (by simp [mm_crf, mm_cti, mm_ctl]) rfl dX12_lostFromHere_10 ?_
      show V _ _ [] _
      refine mm_iload_n C (pc := 13) 2 dX12_lostFromHere_13 rfl ?_
      refine mm_aload_n C (pc := 14) 0 dX12_lostFromHere_14 rfl ?_
      replace hK := mm_bd hK; obtain ⟨v15, e15, hK⟩ := hK
      refine mm_geti C (pc := 15) (k := 22) inGX12 rfl (by decide) wd_2021 dX12_lostFromHere_15 e15 ?_
      refine mm_ior C (pc := 18) dX12_lostFromHere_18 ?_
      refine mm_istore_n C (pc := 19) (i := 2) (lv' := [(2, .int (l2 ||| v15)), (0, va_rf l0), (1, .int l1), (3, .int l3)]) dX12_lostFromHere_19 rfl (by decide) rfl ?_
      refine mm_iinc C (pc := 20) (v := (l3 + (1 : Int32))) (lv' := [(3, .int (l3 + (1 : Int32))), (2, .int (l2 ||| v15)), (0, va_rf l0), (1, .int l1)]) 3 dX12_lostFromHere_20 rfl rfl (by decide) rfl ?_
      refine mm_goto C (pc := 23) (tgt := 4) dX12_lostFromHere_23 (by decide) ?_
      refine mm_sub C [2, 3, 1, 0] rfl ?_
      exact ih _ _ _ _ _ hK
def F_X12_lostFromHere (a0 : Option Nat) (a1 : Int32) (h : MH) : Option (Int32 × MH) := F_X12_lostFromHere_4 mm_N a0 a1 (0 : Int32) (0 : Int32) h
set_option maxRecDepth 20000 in
set_option maxHeartbeats 4000000 in
theorem S_X12_lostFromHere {d : Nat} (hd : 8 ≤ d) {a0 : Option Nat} {a1 : Int32} {h : MH} {r : Int32} {hz : MH} (hK : F_X12_lostFromHere a0 a1 h = some (r, hz)) : mm_M yX12_lostFromHere cX12_lostFromHere 4 (some .int) d [va_rf a0, .int a1] h (.inr (some (.int r))) hz := by
  refine mm_ofV (by decide +kernel) (by simp [lg_sl, mm_crf, mm_cti, mm_ctl]) (fun V C => ?_)
  rw [show lv_args 0 [va_rf a0, .int a1] = [(0, va_rf a0), (1, .int a1)] by simp [lv_args, mm_crf, mm_cti, mm_ctl]]
  unfold F_X12_lostFromHere at hK
  refine mm_iconst C (pc := 0) (v := (0 : Int32)) dX12_lostFromHere_0 (by decide) ?_
  refine mm_istore_n C (pc := 1) (i := 2) (lv' := [(2, .int (0 : Int32)), (0, va_rf a0), (1, .int a1)]) dX12_lostFromHere_1 rfl (by decide) rfl ?_
  refine mm_iconst C (pc := 2) (v := (0 : Int32)) dX12_lostFromHere_2 (by decide) ?_
  refine mm_istore_n C (pc := 3) (i := 3) (lv' := [(3, .int (0 : Int32)), (2, .int (0 : Int32)), (0, va_rf a0), (1, .int a1)]) dX12_lostFromHere_3 rfl (by decide) rfl ?_
  refine mm_sub C [2, 3, 1, 0] rfl ?_
  exact w_X12_lostFromHere_4 hd C _ _ _ _ _ _ hK
theorem wd_2505 : Cond.code yX12_lostFromHere cX12_lostFromHere 4 (some .int) ∈ lw_good := mm_wd 2505 (by decide +kernel) (by decide +kernel)
theorem tT_X12_lostFromHere : mm_T yX12_lostFromHere cX12_lostFromHere 4 (some .int) 1 := ⟨wd_2505, wd_170, by decide +kernel, by decide +kernel, by decide +kernel, by decide +kernel⟩
theorem wd_2502 : Cond.methodLink RX12 408 yX12_lostFromHere ∈ lw_good := mm_wd 2502 (by decide +kernel) (by decide +kernel)
theorem wd_2504 : Cond.instanceMethod yX12_lostFromHere ∈ lw_good := mm_wd 2504 (by decide +kernel) (by decide +kernel)
theorem wd_114 : Cond.selects RX12 yX12_lostFromHere yX12_lostFromHere ∈ lw_good := mm_wd 114 (by decide +kernel) (by decide +kernel)
def F_X12_lostNow (a0 : Option Nat) (a1 : Int32) (h : MH) : Option (Int32 × MH) := (cV h a0 12 (F_X12_putsAside a0 h)).bind fun h1 => mm_b2 (cV h1 a0 12 (F_X12_lostFromHere a0 a1 h1)) fun v6 h6 => some (v6, h6)
set_option maxRecDepth 20000 in
set_option maxHeartbeats 4000000 in
theorem S_X12_lostNow {d : Nat} (hd : 9 ≤ d) {a0 : Option Nat} {a1 : Int32} {h : MH} {r : Int32} {hz : MH} (hK : F_X12_lostNow a0 a1 h = some (r, hz)) : mm_M yX12_lostNow cX12_lostNow 2 (some .int) d [va_rf a0, .int a1] h (.inr (some (.int r))) hz := by
  refine mm_ofV (by decide +kernel) (by simp [lg_sl, mm_crf, mm_cti, mm_ctl]) (fun V C => ?_)
  rw [show lv_args 0 [va_rf a0, .int a1] = [(0, va_rf a0), (1, .int a1)] by simp [lv_args, mm_crf, mm_cti, mm_ctl]]
  unfold F_X12_lostNow at hK
  refine mm_aload_n C (pc := 0) 0 dX12_lostNow_0 rfl ?_
  replace hK := mm_bd hK; obtain ⟨h1, e1, hK⟩ := hK
  obtain ⟨o1, e1⟩ := cV_some e1
  refine mm_callV C (pc := 1) (d1 := 1) (As := []) (st := []) (vk := none) ((S_X12_putsAside (by omega)) e1) tT_X12_putsAside o1 (Or.inr ⟨_, rfl, rfl⟩) wd_2444 wd_2446 wd_105 (by omega) (by decide) rfl (by simp [mm_crf, mm_cti, mm_ctl]) rfl dX12_lostNow_1 ?_
  show V _ _ [] _
  refine mm_aload_n C (pc := 4) 0 dX12_lostNow_4 rfl ?_
  refine mm_iload_n C (pc := 5) 1 dX12_lostNow_5 rfl ?_
  replace hK := mm_b2s hK; obtain ⟨v6, h6, e6, hK⟩ := hK
  obtain ⟨o6, e6⟩ := cV_some e6
  refine mm_callV C (pc := 6) (d1 := 8) (As := [.int a1]) (st := []) (vk := (some (.int v6))) ((S_X12_lostFromHere (by omega)) e6) tT_X12_lostFromHere o6 (Or.inr ⟨_, rfl, rfl⟩) wd_2502 wd_2504 wd_114 (by omega) (by decide) rfl (by simp [mm_crf, mm_cti, mm_ctl]) rfl dX12_lostNow_6 ?_
  show V _ _ (.int v6 :: _) _
  cases hK
  exact mm_iret C (pc := 9) rfl dX12_lostNow_9 rfl rfl
theorem wd_2497 : Cond.code yX12_isSoon cX12_isSoon 1 (some .boolean) ∈ lw_good := mm_wd 2497 (by decide +kernel) (by decide +kernel)
theorem tT_X12_isSoon : mm_T yX12_isSoon cX12_isSoon 1 (some .boolean) 1 := ⟨wd_2497, wd_170, by decide +kernel, by decide +kernel, by decide +kernel, by decide +kernel⟩
theorem wd_2495 : Cond.methodLink RX12 411 yX12_isSoon ∈ lw_good := mm_wd 2495 (by decide +kernel) (by decide +kernel)
theorem wd_2496 : Cond.static yX12_isSoon ∈ lw_good := mm_wd 2496 (by decide +kernel) (by decide +kernel)
theorem wd_2501 : Cond.code yX12_lostNow cX12_lostNow 2 (some .int) ∈ lw_good := mm_wd 2501 (by decide +kernel) (by decide +kernel)
theorem tT_X12_lostNow : mm_T yX12_lostNow cX12_lostNow 2 (some .int) 1 := ⟨wd_2501, wd_170, by decide +kernel, by decide +kernel, by decide +kernel, by decide +kernel⟩
theorem wd_2498 : Cond.methodLink RX12 414 yX12_lostNow ∈ lw_good := mm_wd 2498 (by decide +kernel) (by decide +kernel)
theorem wd_2500 : Cond.instanceMethod yX12_lostNow ∈ lw_good := mm_wd 2500 (by decide +kernel) (by decide +kernel)
theorem wd_113 : Cond.selects RX12 yX12_lostNow yX12_lostNow ∈ lw_good := mm_wd 113 (by decide +kernel) (by decide +kernel)
def F_X12_lost_28 (s0 : Int32) (h : MH) : Option (Int32 × MH) := some (s0, h)
set_option maxRecDepth 20000 in
set_option maxHeartbeats 4000000 in
theorem w_X12_lost_28 {d : Nat} {V : Nat → List (Nat × Value) → List Value → MH → Prop} {r : Int32} {hz : MH} (hd : 10 ≤ d) (C : mm_C d yX12_lost cX12_lost 2 (some .int) (.inr (some (.int r))) hz V) (s0 : Int32) (h : MH) (hK : F_X12_lost_28 s0 h = some (r, hz)) : V 28 [] [.int s0] h := by
  unfold F_X12_lost_28 at hK
  cases hK
  exact mm_iret C (pc := 28) rfl dX12_lost_28 rfl rfl
def F_X12_lost (a0 : Option Nat) (a1 : Int32) (h : MH) : Option (Int32 × MH) := (pI h a0 12 4 (0 : Int32)).bind fun h2 => mm_b2 (F_X12_isSoon a1 h2) fun v6 h6 => if v6 = 0 then (mm_b2 (cV h6 a0 12 (F_X12_fails a0 (1 : Int32) h6)) fun v25 h25 => F_X12_lost_28 v25 h25) else (mm_b2 (cV h6 a0 12 (F_X12_lostNow a0 a1 h6)) fun v14 h14 => mm_b2 (F_X12_size v14 h14) fun v17 h17 => F_X12_lost_28 v17 h17)
set_option maxRecDepth 20000 in
set_option maxHeartbeats 4000000 in
theorem S_X12_lost {d : Nat} (hd : 10 ≤ d) {a0 : Option Nat} {a1 : Int32} {h : MH} {r : Int32} {hz : MH} (hK : F_X12_lost a0 a1 h = some (r, hz)) : mm_M yX12_lost cX12_lost 2 (some .int) d [va_rf a0, .int a1] h (.inr (some (.int r))) hz := by
  refine mm_ofV (by decide +kernel) (by simp [lg_sl, mm_crf, mm_cti, mm_ctl]) (fun V C => ?_)
  rw [show lv_args 0 [va_rf a0, .int a1] = [(0, va_rf a0), (1, .int a1)] by simp [lv_args, mm_crf, mm_cti, mm_ctl]]
  unfold F_X12_lost at hK
  refine mm_aload_n C (pc := 0) 0 dX12_lost_0 rfl ?_
  refine mm_iconst C (pc := 1) (v := (0 : Int32)) dX12_lost_1 (by decide) ?_
  replace hK := mm_bd hK; obtain ⟨h2, e2, hK⟩ := hK
  refine mm_puti C (pc := 2) (k := 4) false (fun z => by cases z) inGX12 tyX12 tyX12_ok nmX12 rfl (by decide) wd_2003 rfl rfl dX12_lost_2 e2 ?_
  refine mm_iload_n C (pc := 5) 1 dX12_lost_5 rfl ?_
  replace hK := mm_b2s hK; obtain ⟨v6, h6, e6, hK⟩ := hK
  refine mm_callS C (pc := 6) (d1 := 2) (As := [.int a1]) (st := []) (vk := (some (.int v6))) ((S_X12_isSoon (by omega)) e6) tT_X12_isSoon wd_2495 wd_2496 (by omega) (by decide) rfl (by simp [mm_crf, mm_cti, mm_ctl]) rfl dX12_lost_6 ?_
  show V _ _ (.int v6 :: _) _
  refine mm_if_eq C (pc := 9) (tgt := 23) dX12_lost_9 (by decide) (fun hc => ?_) (fun hc => ?_)
  · replace hK := mm_ip hc hK
    refine mm_aload_n C (pc := 23) 0 dX12_lost_23 rfl ?_
    refine mm_iconst C (pc := 24) (v := (1 : Int32)) dX12_lost_24 (by decide) ?_
    replace hK := mm_b2s hK; obtain ⟨v25, h25, e25, hK⟩ := hK
    obtain ⟨o25, e25⟩ := cV_some e25
    refine mm_callV C (pc := 25) (d1 := 1) (As := [.int (1 : Int32)]) (st := []) (vk := (some (.int v25))) ((S_X12_fails (by omega)) e25) tT_X12_fails o25 (Or.inr ⟨_, rfl, rfl⟩) wd_2160 wd_2162 wd_61 (by omega) (by decide) rfl (by simp [mm_crf, mm_cti, mm_ctl]) rfl dX12_lost_25 ?_
    show V _ _ (.int v25 :: _) _
    refine mm_sub C [] rfl ?_
    exact w_X12_lost_28 hd C _ _ hK
  · replace hK := mm_in hc hK
    refine mm_aload_n C (pc := 12) 0 dX12_lost_12 rfl ?_
    refine mm_iload_n C (pc := 13) 1 dX12_lost_13 rfl ?_
    replace hK := mm_b2s hK; obtain ⟨v14, h14, e14, hK⟩ := hK
    obtain ⟨o14, e14⟩ := cV_some e14
    refine mm_callV C (pc := 14) (d1 := 9) (As := [.int a1]) (st := []) (vk := (some (.int v14))) ((S_X12_lostNow (by omega)) e14) tT_X12_lostNow o14 (Or.inr ⟨_, rfl, rfl⟩) wd_2498 wd_2500 wd_113 (by omega) (by decide) rfl (by simp [mm_crf, mm_cti, mm_ctl]) rfl dX12_lost_14 ?_
    show V _ _ (.int v14 :: _) _
    replace hK := mm_b2s hK; obtain ⟨v17, h17, e17, hK⟩ := hK
    refine mm_callS C (pc := 17) (d1 := 1) (As := [.int v14]) (st := []) (vk := (some (.int v17))) ((S_X12_size (by omega)) e17) tT_X12_size wd_2424 wd_2425 (by omega) (by decide) rfl (by simp [mm_crf, mm_cti, mm_ctl]) rfl dX12_lost_17 ?_
    show V _ _ (.int v17 :: _) _
    refine mm_goto C (pc := 20) (tgt := 28) dX12_lost_20 (by decide) ?_
    refine mm_sub C [] rfl ?_
    exact w_X12_lost_28 hd C _ _ hK
def F_X12_firstOf_2 : Nat → Int32 → Int32 → MH → Option (Int32 × MH)
  | 0 => fun _ _ _ => none
  | n + 1 => fun l0 l1 h => mm_b2 (F_X12_has l0 l1 h) fun v4 h4 => if v4 = 0 then (F_X12_firstOf_2 n l0 (l1 + (1 : Int32)) h4) else (some (l1, h4))
set_option maxRecDepth 20000 in
set_option maxHeartbeats 4000000 in
theorem w_X12_firstOf_2 {d : Nat} {V : Nat → List (Nat × Value) → List Value → MH → Prop} {r : Int32} {hz : MH} (hd : 2 ≤ d) (C : mm_C d yX12_firstOf cX12_firstOf 2 (some .int) (.inr (some (.int r))) hz V) : ∀ (n : Nat) (l0 : Int32) (l1 : Int32) (h : MH), F_X12_firstOf_2 n l0 l1 h = some (r, hz) → V 2 [(0, .int l0), (1, .int l1)] [] h := by
  intro n
  induction n with
  | zero => intro l0 l1 h hK; cases hK
  | succ n ih =>
    intro l0 l1 h hK
    replace hK : (mm_b2 (F_X12_has l0 l1 h) fun v4 h4 => if v4 = 0 then (F_X12_firstOf_2 n l0 (l1 + (1 : Int32)) h4) else (some (l1, h4))) = some (r, hz) := hK
    refine mm_iload_n C (pc := 2) 0 dX12_firstOf_2 rfl ?_
    refine mm_iload_n C (pc := 3) 1 dX12_firstOf_3 rfl ?_
    replace hK := mm_b2s hK; obtain ⟨v4, h4, e4, hK⟩ := hK
    refine mm_callS C (pc := 4) (d1 := 1) (As := [.int l0, .int l1]) (st := []) (vk := (some (.int v4))) ((S_X12_has (by omega)) e4) tT_X12_has wd_2316 wd_2317 (by omega) (by decide) rfl (by simp [mm_crf, mm_cti, mm_ctl]) rfl dX12_firstOf_4 ?_
    show V _ _ (.int v4 :: _) _
    refine mm_if_ne C (pc := 7) (tgt := 16) dX12_firstOf_7 (by decide) (fun hc => ?_) (fun hc => ?_)
    · replace hK := mm_in hc hK
      refine mm_iload_n C (pc := 16) 1 dX12_firstOf_16 rfl ?_
      cases hK
      exact mm_iret C (pc := 17) rfl dX12_firstOf_17 rfl rfl
    · replace hK := mm_ip hc hK
      refine mm_iinc C (pc := 10) (v := (l1 + (1 : Int32))) (lv' := [(1, .int (l1 + (1 : Int32))), (0, .int l0)]) 1 dX12_firstOf_10 rfl rfl (by decide) rfl ?_
      refine mm_goto C (pc := 13) (tgt := 2) dX12_firstOf_13 (by decide) ?_
      refine mm_sub C [1, 0] rfl ?_
      exact ih _ _ _ hK
def F_X12_firstOf (a0 : Int32) (h : MH) : Option (Int32 × MH) := F_X12_firstOf_2 mm_N a0 (0 : Int32) h
set_option maxRecDepth 20000 in
set_option maxHeartbeats 4000000 in
theorem S_X12_firstOf {d : Nat} (hd : 2 ≤ d) {a0 : Int32} {h : MH} {r : Int32} {hz : MH} (hK : F_X12_firstOf a0 h = some (r, hz)) : mm_M yX12_firstOf cX12_firstOf 2 (some .int) d [.int a0] h (.inr (some (.int r))) hz := by
  refine mm_ofV (by decide +kernel) (by simp [lg_sl, mm_crf, mm_cti, mm_ctl]) (fun V C => ?_)
  rw [show lv_args 0 [.int a0] = [(0, .int a0)] by simp [lv_args, mm_crf, mm_cti, mm_ctl]]
  unfold F_X12_firstOf at hK
  refine mm_iconst C (pc := 0) (v := (0 : Int32)) dX12_firstOf_0 (by decide) ?_
  refine mm_istore_n C (pc := 1) (i := 1) (lv' := [(1, .int (0 : Int32)), (0, .int a0)]) dX12_firstOf_1 rfl (by decide) rfl ?_
  refine mm_sub C [1, 0] rfl ?_
  exact w_X12_firstOf_2 hd C _ _ _ _ hK
theorem wd_2512 : Cond.code yX12_firstOf cX12_firstOf 2 (some .int) ∈ lw_good := mm_wd 2512 (by decide +kernel) (by decide +kernel)
theorem tT_X12_firstOf : mm_T yX12_firstOf cX12_firstOf 2 (some .int) 1 := ⟨wd_2512, wd_170, by decide +kernel, by decide +kernel, by decide +kernel, by decide +kernel⟩
theorem wd_2510 : Cond.methodLink RX12 417 yX12_firstOf ∈ lw_good := mm_wd 2510 (by decide +kernel) (by decide +kernel)
theorem wd_2511 : Cond.static yX12_firstOf ∈ lw_good := mm_wd 2511 (by decide +kernel) (by decide +kernel)
def F_X12_firstLost_61 (s0 : Int32) (h : MH) : Option (Int32 × MH) := some (s0, h)
set_option maxRecDepth 20000 in
set_option maxHeartbeats 4000000 in
theorem w_X12_firstLost_61 {d : Nat} {V : Nat → List (Nat × Value) → List Value → MH → Prop} {r : Int32} {hz : MH} (hd : 8 ≤ d) (C : mm_C d yX12_firstLost cX12_firstLost 2 (some .int) (.inr (some (.int r))) hz V) (s0 : Int32) (h : MH) (hK : F_X12_firstLost_61 s0 h = some (r, hz)) : V 61 [] [.int s0] h := by
  unfold F_X12_firstLost_61 at hK
  cases hK
  exact mm_iret C (pc := 61) rfl dX12_firstLost_61 rfl rfl
def F_X12_firstLost_40 (l0 : Option Nat) (h : MH) : Option (Int32 × MH) := (gI h l0 12 22).bind fun v41 => (cV h l0 12 (F_X12_putsBack l0 h)).bind fun h46 => if v41 = 0 then (F_X12_firstLost_61 ((-1) : Int32) h46) else (mm_b2 (F_X12_firstOf v41 h46) fun v58 h58 => F_X12_firstLost_61 v58 h58)
set_option maxRecDepth 20000 in
set_option maxHeartbeats 4000000 in
theorem w_X12_firstLost_40 {d : Nat} {V : Nat → List (Nat × Value) → List Value → MH → Prop} {r : Int32} {hz : MH} (hd : 8 ≤ d) (C : mm_C d yX12_firstLost cX12_firstLost 2 (some .int) (.inr (some (.int r))) hz V) (l0 : Option Nat) (h : MH) (hK : F_X12_firstLost_40 l0 h = some (r, hz)) : V 40 [(0, va_rf l0)] [] h := by
  unfold F_X12_firstLost_40 at hK
  refine mm_aload_n C (pc := 40) 0 dX12_firstLost_40 rfl ?_
  replace hK := mm_bd hK; obtain ⟨v41, e41, hK⟩ := hK
  refine mm_geti C (pc := 41) (k := 22) inGX12 rfl (by decide) wd_2021 dX12_firstLost_41 e41 ?_
  refine mm_istore_n C (pc := 44) (i := 1) (lv' := [(1, .int v41), (0, va_rf l0)]) dX12_firstLost_44 rfl (by decide) (by simp [mm_crf]) ?_
  refine mm_aload_n C (pc := 45) 1 dX12_firstLost_45 rfl ?_
  replace hK := mm_bd hK; obtain ⟨h46, e46, hK⟩ := hK
  obtain ⟨o46, e46⟩ := cV_some e46
  refine mm_callV C (pc := 46) (d1 := 1) (As := []) (st := []) (vk := none) ((S_X12_putsBack (by omega)) e46) tT_X12_putsBack o46 (Or.inr ⟨_, rfl, rfl⟩) wd_2469 wd_2471 wd_110 (by omega) (by decide) rfl (by simp [mm_crf, mm_cti, mm_ctl]) rfl dX12_firstLost_46 ?_
  show V _ _ [] _
  refine mm_iload_n C (pc := 49) 0 dX12_firstLost_49 rfl ?_
  refine mm_if_ne C (pc := 50) (tgt := 57) dX12_firstLost_50 (by decide) (fun hc => ?_) (fun hc => ?_)
  · replace hK := mm_in hc hK
    refine mm_iload_n C (pc := 57) 0 dX12_firstLost_57 rfl ?_
    replace hK := mm_b2s hK; obtain ⟨v58, h58, e58, hK⟩ := hK
    refine mm_callS C (pc := 58) (d1 := 2) (As := [.int v41]) (st := []) (vk := (some (.int v58))) ((S_X12_firstOf (by omega)) e58) tT_X12_firstOf wd_2510 wd_2511 (by omega) (by decide) rfl (by simp [mm_crf, mm_cti, mm_ctl]) rfl dX12_firstLost_58 ?_
    show V _ _ (.int v58 :: _) _
    refine mm_sub C [] rfl ?_
    exact w_X12_firstLost_61 hd C _ _ hK
  · replace hK := mm_ip hc hK
    refine mm_iconst C (pc := 53) (v := ((-1) : Int32)) dX12_firstLost_53 (by decide) ?_
    refine mm_goto C (pc := 54) (tgt := 61) dX12_firstLost_54 (by decide) ?_
    refine mm_sub C [] rfl ?_
    exact w_X12_firstLost_61 hd C _ _ hK
def F_X12_firstLost_16 : Nat → Option Nat → Int32 → MH → Option (Int32 × MH)
  | 0 => fun _ _ _ => none
  | n + 1 => fun l0 l1 h => if (1200 : Int32) ≤ l1 then (F_X12_firstLost_40 l0 h) else ((gI h l0 12 22).bind fun v24 => if v24 = 0 then ((cV h l0 12 (F_X12_minute l0 h)).bind fun h31 => F_X12_firstLost_16 n l0 (l1 + (1 : Int32)) h31) else (F_X12_firstLost_40 l0 h))
set_option maxRecDepth 20000 in
set_option maxHeartbeats 4000000 in
theorem w_X12_firstLost_16 {d : Nat} {V : Nat → List (Nat × Value) → List Value → MH → Prop} {r : Int32} {hz : MH} (hd : 8 ≤ d) (C : mm_C d yX12_firstLost cX12_firstLost 2 (some .int) (.inr (some (.int r))) hz V) : ∀ (n : Nat) (l0 : Option Nat) (l1 : Int32) (h : MH), F_X12_firstLost_16 n l0 l1 h = some (r, hz) → V 16 [(0, va_rf l0), (1, .int l1)] [] h := by
  intro n
  induction n with
  | zero => intro l0 l1 h hK; cases hK
  | succ n ih =>
    intro l0 l1 h hK
    replace hK : (if (1200 : Int32) ≤ l1 then (F_X12_firstLost_40 l0 h) else ((gI h l0 12 22).bind fun v24 => if v24 = 0 then ((cV h l0 12 (F_X12_minute l0 h)).bind fun h31 => F_X12_firstLost_16 n l0 (l1 + (1 : Int32)) h31) else (F_X12_firstLost_40 l0 h))) = some (r, hz) := hK
    refine mm_iload_n C (pc := 16) 1 dX12_firstLost_16 rfl ?_
    refine mm_sipush C (pc := 17) (v := (1200 : Int32)) dX12_firstLost_17 (by decide) ?_
    refine mm_icmp_ge C (pc := 20) (tgt := 40) dX12_firstLost_20 (by decide) (fun hc => ?_) (fun hc => ?_)
    · replace hK := mm_ip hc hK
      refine mm_sub C [0] rfl ?_
      exact w_X12_firstLost_40 hd C _ _ hK
    · replace hK := mm_in hc hK
      refine mm_aload_n C (pc := 23) 0 dX12_firstLost_23 rfl ?_
      replace hK := mm_bd hK; obtain ⟨v24, e24, hK⟩ := hK
      refine mm_geti C (pc := 24) (k := 22) inGX12 rfl (by decide) wd_2021 dX12_firstLost_24 e24 ?_
      refine mm_if_ne C (pc := 27) (tgt := 40) dX12_firstLost_27 (by decide) (fun hc => ?_) (fun hc => ?_)
      · replace hK := mm_in hc hK
        refine mm_sub C [0] rfl ?_
        exact w_X12_firstLost_40 hd C _ _ hK
      · replace hK := mm_ip hc hK
        refine mm_aload_n C (pc := 30) 0 dX12_firstLost_30 rfl ?_
        replace hK := mm_bd hK; obtain ⟨h31, e31, hK⟩ := hK
        obtain ⟨o31, e31⟩ := cV_some e31
        refine mm_callV C (pc := 31) (d1 := 7) (As := []) (st := []) (vk := none) ((S_X12_minute (by omega)) e31) tT_X12_minute o31 (Or.inr ⟨_, rfl, rfl⟩) wd_2408 wd_2410 wd_100 (by omega) (by decide) rfl (by simp [mm_crf, mm_cti, mm_ctl]) rfl dX12_firstLost_31 ?_
        show V _ _ [] _
        refine mm_iinc C (pc := 34) (v := (l1 + (1 : Int32))) (lv' := [(1, .int (l1 + (1 : Int32))), (0, va_rf l0)]) 1 dX12_firstLost_34 rfl rfl (by decide) (by simp [mm_crf]) ?_
        refine mm_goto C (pc := 37) (tgt := 16) dX12_firstLost_37 (by decide) ?_
        refine mm_sub C [1, 0] rfl ?_
        exact ih _ _ _ hK
def F_X12_firstLost (a0 : Option Nat) (h : MH) : Option (Int32 × MH) := (pI h a0 12 4 (0 : Int32)).bind fun h2 => (cV h2 a0 12 (F_X12_putsAside a0 h2)).bind fun h6 => (pI h6 a0 12 22 (0 : Int32)).bind fun h11 => F_X12_firstLost_16 mm_N a0 (0 : Int32) h11
set_option maxRecDepth 20000 in
set_option maxHeartbeats 4000000 in
theorem S_X12_firstLost {d : Nat} (hd : 8 ≤ d) {a0 : Option Nat} {h : MH} {r : Int32} {hz : MH} (hK : F_X12_firstLost a0 h = some (r, hz)) : mm_M yX12_firstLost cX12_firstLost 2 (some .int) d [va_rf a0] h (.inr (some (.int r))) hz := by
  refine mm_ofV (by decide +kernel) (by simp [lg_sl, mm_crf, mm_cti, mm_ctl]) (fun V C => ?_)
  rw [show lv_args 0 [va_rf a0] = [(0, va_rf a0)] by simp [lv_args, mm_crf, mm_cti, mm_ctl]]
  unfold F_X12_firstLost at hK
  refine mm_aload_n C (pc := 0) 0 dX12_firstLost_0 rfl ?_
  refine mm_iconst C (pc := 1) (v := (0 : Int32)) dX12_firstLost_1 (by decide) ?_
  replace hK := mm_bd hK; obtain ⟨h2, e2, hK⟩ := hK
  refine mm_puti C (pc := 2) (k := 4) false (fun z => by cases z) inGX12 tyX12 tyX12_ok nmX12 rfl (by decide) wd_2003 rfl rfl dX12_firstLost_2 e2 ?_
  refine mm_aload_n C (pc := 5) 0 dX12_firstLost_5 rfl ?_
  replace hK := mm_bd hK; obtain ⟨h6, e6, hK⟩ := hK
  obtain ⟨o6, e6⟩ := cV_some e6
  refine mm_callV C (pc := 6) (d1 := 1) (As := []) (st := []) (vk := none) ((S_X12_putsAside (by omega)) e6) tT_X12_putsAside o6 (Or.inr ⟨_, rfl, rfl⟩) wd_2444 wd_2446 wd_105 (by omega) (by decide) rfl (by simp [mm_crf, mm_cti, mm_ctl]) rfl dX12_firstLost_6 ?_
  show V _ _ [] _
  refine mm_aload_n C (pc := 9) 0 dX12_firstLost_9 rfl ?_
  refine mm_iconst C (pc := 10) (v := (0 : Int32)) dX12_firstLost_10 (by decide) ?_
  replace hK := mm_bd hK; obtain ⟨h11, e11, hK⟩ := hK
  refine mm_puti C (pc := 11) (k := 22) false (fun z => by cases z) inGX12 tyX12 tyX12_ok nmX12 rfl (by decide) wd_2021 rfl rfl dX12_firstLost_11 e11 ?_
  refine mm_iconst C (pc := 14) (v := (0 : Int32)) dX12_firstLost_14 (by decide) ?_
  refine mm_istore_n C (pc := 15) (i := 1) (lv' := [(1, .int (0 : Int32)), (0, va_rf a0)]) dX12_firstLost_15 rfl (by decide) (by simp [mm_crf]) ?_
  refine mm_sub C [1, 0] rfl ?_
  exact w_X12_firstLost_16 hd C _ _ _ _ hK
def F_X12_areTogether_25 (s0 : Int32) (h : MH) : Option (Int32 × MH) := rZ s0 h
set_option maxRecDepth 20000 in
set_option maxHeartbeats 4000000 in
theorem w_X12_areTogether_25 {d : Nat} {V : Nat → List (Nat × Value) → List Value → MH → Prop} {r : Int32} {hz : MH} (hd : 3 ≤ d) (C : mm_C d yX12_areTogether cX12_areTogether 4 (some .boolean) (.inr (some (.int r))) hz V) (s0 : Int32) (h : MH) (hK : F_X12_areTogether_25 s0 h = some (r, hz)) : V 25 [] [.int s0] h := by
  unfold F_X12_areTogether_25 at hK
  replace hK := rZ_some hK; obtain ⟨hv25, hK⟩ := hK
  cases hK
  exact mm_zret C (pc := 25) rfl (mm_nrZ hv25) dX12_areTogether_25 rfl rfl
def F_X12_areTogether_24 (h : MH) : Option (Int32 × MH) := F_X12_areTogether_25 (0 : Int32) h
set_option maxRecDepth 20000 in
set_option maxHeartbeats 4000000 in
theorem w_X12_areTogether_24 {d : Nat} {V : Nat → List (Nat × Value) → List Value → MH → Prop} {r : Int32} {hz : MH} (hd : 3 ≤ d) (C : mm_C d yX12_areTogether cX12_areTogether 4 (some .boolean) (.inr (some (.int r))) hz V) (h : MH) (hK : F_X12_areTogether_24  h = some (r, hz)) : V 24 [] [] h := by
  unfold F_X12_areTogether_24 at hK
  refine mm_iconst C (pc := 24) (v := (0 : Int32)) dX12_areTogether_24 (by decide) ?_
  exact w_X12_areTogether_25 hd C _ _ hK
def F_X12_areTogether (a0 : Option Nat) (a1 : Int32) (a2 : Int32) (h : MH) : Option (Int32 × MH) := mm_b2 (cV h a0 12 (F_X12_busyIn a0 a1 h)) fun v2 h2 => if v2 = ((-1) : Int32) then (F_X12_areTogether_24 h2) else (mm_b2 (cV h2 a0 12 (F_X12_busyIn a0 a2 h2)) fun v14 h14 => if v2 = v14 then (F_X12_areTogether_25 (1 : Int32) h14) else (F_X12_areTogether_24 h14))
set_option maxRecDepth 20000 in
set_option maxHeartbeats 4000000 in
theorem S_X12_areTogether {d : Nat} (hd : 3 ≤ d) {a0 : Option Nat} {a1 : Int32} {a2 : Int32} {h : MH} {r : Int32} {hz : MH} (hK : F_X12_areTogether a0 a1 a2 h = some (r, hz)) : mm_M yX12_areTogether cX12_areTogether 4 (some .boolean) d [va_rf a0, .int a1, .int a2] h (.inr (some (.int r))) hz := by
  refine mm_ofV (by decide +kernel) (by simp [lg_sl, mm_crf, mm_cti, mm_ctl]) (fun V C => ?_)
  rw [show lv_args 0 [va_rf a0, .int a1, .int a2] = [(0, va_rf a0), (1, .int a1), (2, .int a2)] by simp [lv_args, mm_crf, mm_cti, mm_ctl]]
  unfold F_X12_areTogether at hK
  refine mm_aload_n C (pc := 0) 0 dX12_areTogether_0 rfl ?_
  refine mm_iload_n C (pc := 1) 1 dX12_areTogether_1 rfl ?_
  replace hK := mm_b2s hK; obtain ⟨v2, h2, e2, hK⟩ := hK
  obtain ⟨o2, e2⟩ := cV_some e2
  refine mm_callV C (pc := 2) (d1 := 2) (As := [.int a1]) (st := []) (vk := (some (.int v2))) ((S_X12_busyIn (by omega)) e2) tT_X12_busyIn o2 (Or.inr ⟨_, rfl, rfl⟩) wd_2319 wd_2321 wd_90 (by omega) (by decide) rfl (by simp [mm_crf, mm_cti, mm_ctl]) rfl dX12_areTogether_2 ?_
  show V _ _ (.int v2 :: _) _
  refine mm_istore_n C (pc := 5) (i := 3) (lv' := [(3, .int v2), (0, va_rf a0), (1, .int a1), (2, .int a2)]) dX12_areTogether_5 rfl (by decide) rfl ?_
  refine mm_iload_n C (pc := 6) 0 dX12_areTogether_6 rfl ?_
  refine mm_iconst C (pc := 7) (v := ((-1) : Int32)) dX12_areTogether_7 (by decide) ?_
  refine mm_icmp_eq C (pc := 8) (tgt := 24) dX12_areTogether_8 (by decide) (fun hc => ?_) (fun hc => ?_)
  · replace hK := mm_ip hc hK
    refine mm_sub C [] rfl ?_
    exact w_X12_areTogether_24 hd C _ hK
  · replace hK := mm_in hc hK
    refine mm_iload_n C (pc := 11) 0 dX12_areTogether_11 rfl ?_
    refine mm_aload_n C (pc := 12) 1 dX12_areTogether_12 rfl ?_
    refine mm_iload_n C (pc := 13) 3 dX12_areTogether_13 rfl ?_
    replace hK := mm_b2s hK; obtain ⟨v14, h14, e14, hK⟩ := hK
    obtain ⟨o14, e14⟩ := cV_some e14
    refine mm_callV C (pc := 14) (d1 := 2) (As := [.int a2]) (st := [.int v2]) (vk := (some (.int v14))) ((S_X12_busyIn (by omega)) e14) tT_X12_busyIn o14 (Or.inr ⟨_, rfl, rfl⟩) wd_2319 wd_2321 wd_90 (by omega) (by decide) rfl (by simp [mm_crf, mm_cti, mm_ctl]) rfl dX12_areTogether_14 ?_
    show V _ _ (.int v14 :: _) _
    refine mm_icmp_ne C (pc := 17) (tgt := 24) dX12_areTogether_17 (by decide) (fun hc => ?_) (fun hc => ?_)
    · replace hK := mm_in hc hK
      refine mm_sub C [] rfl ?_
      exact w_X12_areTogether_24 hd C _ hK
    · replace hK := mm_ip hc hK
      refine mm_iconst C (pc := 20) (v := (1 : Int32)) dX12_areTogether_20 (by decide) ?_
      refine mm_goto C (pc := 21) (tgt := 25) dX12_areTogether_21 (by decide) ?_
      refine mm_sub C [] rfl ?_
      exact w_X12_areTogether_25 hd C _ _ hK
theorem wd_2520 : Cond.code yX12_areTogether cX12_areTogether 4 (some .boolean) ∈ lw_good := mm_wd 2520 (by decide +kernel) (by decide +kernel)
theorem tT_X12_areTogether : mm_T yX12_areTogether cX12_areTogether 4 (some .boolean) 2 := ⟨wd_2520, wd_170, by decide +kernel, by decide +kernel, by decide +kernel, by decide +kernel⟩
theorem wd_2517 : Cond.methodLink RX12 420 yX12_areTogether ∈ lw_good := mm_wd 2517 (by decide +kernel) (by decide +kernel)
theorem wd_2519 : Cond.instanceMethod yX12_areTogether ∈ lw_good := mm_wd 2519 (by decide +kernel) (by decide +kernel)
theorem wd_115 : Cond.selects RX12 yX12_areTogether yX12_areTogether ∈ lw_good := mm_wd 115 (by decide +kernel) (by decide +kernel)
def F_X12_together_109 (s0 : Int32) (h : MH) : Option (Int32 × MH) := some (s0, h)
set_option maxRecDepth 20000 in
set_option maxHeartbeats 4000000 in
theorem w_X12_together_109 {d : Nat} {V : Nat → List (Nat × Value) → List Value → MH → Prop} {r : Int32} {hz : MH} (hd : 8 ≤ d) (C : mm_C d yX12_together cX12_together 5 (some .int) (.inr (some (.int r))) hz V) (s0 : Int32) (h : MH) (hK : F_X12_together_109 s0 h = some (r, hz)) : V 109 [] [.int s0] h := by
  unfold F_X12_together_109 at hK
  cases hK
  exact mm_iret C (pc := 109) rfl dX12_together_109 rfl rfl
def F_X12_together_95 (l0 : Option Nat) (l3 : Int32) (l4 : Int32) (h : MH) : Option (Int32 × MH) := (cV h l0 12 (F_X12_putsBack l0 h)).bind fun h96 => if l4 = 0 then (F_X12_together_109 ((-1) : Int32) h96) else (F_X12_together_109 l3 h96)
set_option maxRecDepth 20000 in
set_option maxHeartbeats 4000000 in
theorem w_X12_together_95 {d : Nat} {V : Nat → List (Nat × Value) → List Value → MH → Prop} {r : Int32} {hz : MH} (hd : 8 ≤ d) (C : mm_C d yX12_together cX12_together 5 (some .int) (.inr (some (.int r))) hz V) (l0 : Option Nat) (l3 : Int32) (l4 : Int32) (h : MH) (hK : F_X12_together_95 l0 l3 l4 h = some (r, hz)) : V 95 [(0, va_rf l0), (3, .int l3), (4, .int l4)] [] h := by
  unfold F_X12_together_95 at hK
  refine mm_aload_n C (pc := 95) 0 dX12_together_95 rfl ?_
  replace hK := mm_bd hK; obtain ⟨h96, e96, hK⟩ := hK
  obtain ⟨o96, e96⟩ := cV_some e96
  refine mm_callV C (pc := 96) (d1 := 1) (As := []) (st := []) (vk := none) ((S_X12_putsBack (by omega)) e96) tT_X12_putsBack o96 (Or.inr ⟨_, rfl, rfl⟩) wd_2469 wd_2471 wd_110 (by omega) (by decide) rfl (by simp [mm_crf, mm_cti, mm_ctl]) rfl dX12_together_96 ?_
  show V _ _ [] _
  refine mm_iload C (pc := 99) 2 dX12_together_99 rfl ?_
  refine mm_if_eq C (pc := 101) (tgt := 108) dX12_together_101 (by decide) (fun hc => ?_) (fun hc => ?_)
  · replace hK := mm_ip hc hK
    refine mm_iconst C (pc := 108) (v := ((-1) : Int32)) dX12_together_108 (by decide) ?_
    refine mm_sub C [] rfl ?_
    exact w_X12_together_109 hd C _ _ hK
  · replace hK := mm_in hc hK
    refine mm_iload_n C (pc := 104) 1 dX12_together_104 rfl ?_
    refine mm_goto C (pc := 105) (tgt := 109) dX12_together_105 (by decide) ?_
    refine mm_sub C [] rfl ?_
    exact w_X12_together_109 hd C _ _ hK
def F_X12_together_65 : Nat → Option Nat → Int32 → Int32 → Int32 → Int32 → MH → Option (Int32 × MH)
  | 0 => fun _ _ _ _ _ _ => none
  | n + 1 => fun l0 l1 l2 l3 l4 h => if (1200 : Int32) ≤ l3 then (F_X12_together_95 l0 l3 l4 h) else (if l4 = 0 then ((cV h l0 12 (F_X12_minute l0 h)).bind fun h78 => mm_b2 (cV h78 l0 12 (F_X12_areTogether l0 l1 l2 h78)) fun v87 h87 => F_X12_together_65 n l0 l1 l2 (l3 + (1 : Int32)) v87 h87) else (F_X12_together_95 l0 l3 l4 h))
set_option maxRecDepth 20000 in
set_option maxHeartbeats 4000000 in
theorem w_X12_together_65 {d : Nat} {V : Nat → List (Nat × Value) → List Value → MH → Prop} {r : Int32} {hz : MH} (hd : 8 ≤ d) (C : mm_C d yX12_together cX12_together 5 (some .int) (.inr (some (.int r))) hz V) : ∀ (n : Nat) (l0 : Option Nat) (l1 : Int32) (l2 : Int32) (l3 : Int32) (l4 : Int32) (h : MH), F_X12_together_65 n l0 l1 l2 l3 l4 h = some (r, hz) → V 65 [(0, va_rf l0), (1, .int l1), (2, .int l2), (3, .int l3), (4, .int l4)] [] h := by
  intro n
  induction n with
  | zero => intro l0 l1 l2 l3 l4 h hK; cases hK
  | succ n ih =>
    intro l0 l1 l2 l3 l4 h hK
    replace hK : (if (1200 : Int32) ≤ l3 then (F_X12_together_95 l0 l3 l4 h) else (if l4 = 0 then ((cV h l0 12 (F_X12_minute l0 h)).bind fun h78 => mm_b2 (cV h78 l0 12 (F_X12_areTogether l0 l1 l2 h78)) fun v87 h87 => F_X12_together_65 n l0 l1 l2 (l3 + (1 : Int32)) v87 h87) else (F_X12_together_95 l0 l3 l4 h))) = some (r, hz) := hK
    refine mm_iload_n C (pc := 65) 3 dX12_together_65 rfl ?_
    refine mm_sipush C (pc := 66) (v := (1200 : Int32)) dX12_together_66 (by decide) ?_
    refine mm_icmp_ge C (pc := 69) (tgt := 95) dX12_together_69 (by decide) (fun hc => ?_) (fun hc => ?_)
    · replace hK := mm_ip hc hK
      refine mm_sub C [0, 3, 4] rfl ?_
      exact w_X12_together_95 hd C _ _ _ _ hK
    · replace hK := mm_in hc hK
      refine mm_iload C (pc := 72) 4 dX12_together_72 rfl ?_
      refine mm_if_ne C (pc := 74) (tgt := 95) dX12_together_74 (by decide) (fun hc => ?_) (fun hc => ?_)
      · replace hK := mm_in hc hK
        refine mm_sub C [0, 3, 4] rfl ?_
        exact w_X12_together_95 hd C _ _ _ _ hK
      · replace hK := mm_ip hc hK
        refine mm_aload_n C (pc := 77) 0 dX12_together_77 rfl ?_
        replace hK := mm_bd hK; obtain ⟨h78, e78, hK⟩ := hK
        obtain ⟨o78, e78⟩ := cV_some e78
        refine mm_callV C (pc := 78) (d1 := 7) (As := []) (st := []) (vk := none) ((S_X12_minute (by omega)) e78) tT_X12_minute o78 (Or.inr ⟨_, rfl, rfl⟩) wd_2408 wd_2410 wd_100 (by omega) (by decide) rfl (by simp [mm_crf, mm_cti, mm_ctl]) rfl dX12_together_78 ?_
        show V _ _ [] _
        refine mm_iinc C (pc := 81) (v := (l3 + (1 : Int32))) (lv' := [(3, .int (l3 + (1 : Int32))), (0, va_rf l0), (1, .int l1), (2, .int l2), (4, .int l4)]) 3 dX12_together_81 rfl rfl (by decide) rfl ?_
        refine mm_aload_n C (pc := 84) 1 dX12_together_84 rfl ?_
        refine mm_iload_n C (pc := 85) 2 dX12_together_85 rfl ?_
        refine mm_iload_n C (pc := 86) 3 dX12_together_86 rfl ?_
        replace hK := mm_b2s hK; obtain ⟨v87, h87, e87, hK⟩ := hK
        obtain ⟨o87, e87⟩ := cV_some e87
        refine mm_callV C (pc := 87) (d1 := 3) (As := [.int l1, .int l2]) (st := []) (vk := (some (.int v87))) ((S_X12_areTogether (by omega)) e87) tT_X12_areTogether o87 (Or.inr ⟨_, rfl, rfl⟩) wd_2517 wd_2519 wd_115 (by omega) (by decide) rfl (by simp [mm_crf, mm_cti, mm_ctl]) rfl dX12_together_87 ?_
        show V _ _ (.int v87 :: _) _
        refine mm_istore C (pc := 90) (i := 4) (lv' := [(4, .int v87), (3, .int (l3 + (1 : Int32))), (0, va_rf l0), (1, .int l1), (2, .int l2)]) dX12_together_90 (by decide) rfl ?_
        refine mm_goto C (pc := 92) (tgt := 65) dX12_together_92 (by decide) ?_
        refine mm_sub C [2, 3, 4, 1, 0] rfl ?_
        exact ih _ _ _ _ _ _ hK
def F_X12_together_33 (l0 : Option Nat) (l1 : Int32) (l2 : Int32) (s0 : Int32) (s1 : Option Nat) (h : MH) : Option (Int32 × MH) := (pI h s1 12 4 s0).bind fun h33 => (gI h33 l0 12 4).bind fun v37 => if v37 ≤ 0 then (mm_b2 (cV h33 l0 12 (F_X12_areTogether l0 l1 l2 h33)) fun v48 h48 => if v48 = 0 then ((cV h48 l0 12 (F_X12_putsAside l0 h48)).bind fun h57 => F_X12_together_65 mm_N l0 l1 l2 ((-1) : Int32) (0 : Int32) h57) else (some ((0 : Int32), h48))) else (some ((0 : Int32), h33))
set_option maxRecDepth 20000 in
set_option maxHeartbeats 4000000 in
theorem w_X12_together_33 {d : Nat} {V : Nat → List (Nat × Value) → List Value → MH → Prop} {r : Int32} {hz : MH} (hd : 8 ≤ d) (C : mm_C d yX12_together cX12_together 5 (some .int) (.inr (some (.int r))) hz V) (l0 : Option Nat) (l1 : Int32) (l2 : Int32) (s0 : Int32) (s1 : Option Nat) (h : MH) (hK : F_X12_together_33 l0 l1 l2 s0 s1 h = some (r, hz)) : V 33 [(0, va_rf l0), (1, .int l1), (2, .int l2)] [.int s0, va_rf s1] h := by
  unfold F_X12_together_33 at hK
  replace hK := mm_bd hK; obtain ⟨h33, e33, hK⟩ := hK
  refine mm_puti C (pc := 33) (k := 4) false (fun z => by cases z) inGX12 tyX12 tyX12_ok nmX12 rfl (by decide) wd_2003 rfl rfl dX12_together_33 e33 ?_
  refine mm_aload_n C (pc := 36) 0 dX12_together_36 rfl ?_
  replace hK := mm_bd hK; obtain ⟨v37, e37, hK⟩ := hK
  refine mm_geti C (pc := 37) (k := 4) inGX12 rfl (by decide) wd_2003 dX12_together_37 e37 ?_
  refine mm_if_le C (pc := 40) (tgt := 45) dX12_together_40 (by decide) (fun hc => ?_) (fun hc => ?_)
  · replace hK := mm_ip hc hK
    refine mm_aload_n C (pc := 45) 0 dX12_together_45 rfl ?_
    refine mm_iload_n C (pc := 46) 1 dX12_together_46 rfl ?_
    refine mm_iload_n C (pc := 47) 2 dX12_together_47 rfl ?_
    replace hK := mm_b2s hK; obtain ⟨v48, h48, e48, hK⟩ := hK
    obtain ⟨o48, e48⟩ := cV_some e48
    refine mm_callV C (pc := 48) (d1 := 3) (As := [.int l1, .int l2]) (st := []) (vk := (some (.int v48))) ((S_X12_areTogether (by omega)) e48) tT_X12_areTogether o48 (Or.inr ⟨_, rfl, rfl⟩) wd_2517 wd_2519 wd_115 (by omega) (by decide) rfl (by simp [mm_crf, mm_cti, mm_ctl]) rfl dX12_together_48 ?_
    show V _ _ (.int v48 :: _) _
    refine mm_if_eq C (pc := 51) (tgt := 56) dX12_together_51 (by decide) (fun hc => ?_) (fun hc => ?_)
    · replace hK := mm_ip hc hK
      refine mm_aload_n C (pc := 56) 0 dX12_together_56 rfl ?_
      replace hK := mm_bd hK; obtain ⟨h57, e57, hK⟩ := hK
      obtain ⟨o57, e57⟩ := cV_some e57
      refine mm_callV C (pc := 57) (d1 := 1) (As := []) (st := []) (vk := none) ((S_X12_putsAside (by omega)) e57) tT_X12_putsAside o57 (Or.inr ⟨_, rfl, rfl⟩) wd_2444 wd_2446 wd_105 (by omega) (by decide) rfl (by simp [mm_crf, mm_cti, mm_ctl]) rfl dX12_together_57 ?_
      show V _ _ [] _
      refine mm_iconst C (pc := 60) (v := ((-1) : Int32)) dX12_together_60 (by decide) ?_
      refine mm_istore_n C (pc := 61) (i := 3) (lv' := [(3, .int ((-1) : Int32)), (0, va_rf l0), (1, .int l1), (2, .int l2)]) dX12_together_61 rfl (by decide) rfl ?_
      refine mm_iconst C (pc := 62) (v := (0 : Int32)) dX12_together_62 (by decide) ?_
      refine mm_istore C (pc := 63) (i := 4) (lv' := [(4, .int (0 : Int32)), (3, .int ((-1) : Int32)), (0, va_rf l0), (1, .int l1), (2, .int l2)]) dX12_together_63 (by decide) rfl ?_
      refine mm_sub C [2, 3, 4, 1, 0] rfl ?_
      exact w_X12_together_65 hd C _ _ _ _ _ _ _ hK
    · replace hK := mm_in hc hK
      refine mm_iconst C (pc := 54) (v := (0 : Int32)) dX12_together_54 (by decide) ?_
      cases hK
      exact mm_iret C (pc := 55) rfl dX12_together_55 rfl rfl
  · replace hK := mm_in hc hK
    refine mm_iconst C (pc := 43) (v := (0 : Int32)) dX12_together_43 (by decide) ?_
    cases hK
    exact mm_iret C (pc := 44) rfl dX12_together_44 rfl rfl
def F_X12_together_19 (l0 : Option Nat) (l1 : Int32) (l2 : Int32) (s0 : Option Nat) (h : MH) : Option (Int32 × MH) := F_X12_together_33 l0 l1 l2 (1 : Int32) s0 h
set_option maxRecDepth 20000 in
set_option maxHeartbeats 4000000 in
theorem w_X12_together_19 {d : Nat} {V : Nat → List (Nat × Value) → List Value → MH → Prop} {r : Int32} {hz : MH} (hd : 8 ≤ d) (C : mm_C d yX12_together cX12_together 5 (some .int) (.inr (some (.int r))) hz V) (l0 : Option Nat) (l1 : Int32) (l2 : Int32) (s0 : Option Nat) (h : MH) (hK : F_X12_together_19 l0 l1 l2 s0 h = some (r, hz)) : V 19 [(0, va_rf l0), (1, .int l1), (2, .int l2)] [va_rf s0] h := by
  unfold F_X12_together_19 at hK
  refine mm_iconst C (pc := 19) (v := (1 : Int32)) dX12_together_19 (by decide) ?_
  refine mm_goto C (pc := 20) (tgt := 33) dX12_together_20 (by decide) ?_
  exact w_X12_together_33 hd C _ _ _ _ _ _ hK
def F_X12_together (a0 : Option Nat) (a1 : Int32) (a2 : Int32) (h : MH) : Option (Int32 × MH) := mm_b2 (cV h a0 12 (F_X12_isLine a0 (a1.toInt64) h)) fun v4 h4 => if v4 = 0 then (F_X12_together_19 a0 a1 a2 a0 h4) else (mm_b2 (cV h4 a0 12 (F_X12_isLine a0 (a2.toInt64) h4)) fun v13 h13 => if v13 = 0 then (F_X12_together_19 a0 a1 a2 a0 h13) else (if a1 = a2 then (F_X12_together_33 a0 a1 a2 (2 : Int32) a0 h13) else (F_X12_together_33 a0 a1 a2 (0 : Int32) a0 h13)))
set_option maxRecDepth 20000 in
set_option maxHeartbeats 4000000 in
theorem S_X12_together {d : Nat} (hd : 8 ≤ d) {a0 : Option Nat} {a1 : Int32} {a2 : Int32} {h : MH} {r : Int32} {hz : MH} (hK : F_X12_together a0 a1 a2 h = some (r, hz)) : mm_M yX12_together cX12_together 5 (some .int) d [va_rf a0, .int a1, .int a2] h (.inr (some (.int r))) hz := by
  refine mm_ofV (by decide +kernel) (by simp [lg_sl, mm_crf, mm_cti, mm_ctl]) (fun V C => ?_)
  rw [show lv_args 0 [va_rf a0, .int a1, .int a2] = [(0, va_rf a0), (1, .int a1), (2, .int a2)] by simp [lv_args, mm_crf, mm_cti, mm_ctl]]
  unfold F_X12_together at hK
  refine mm_aload_n C (pc := 0) 0 dX12_together_0 rfl ?_
  refine mm_aload_n C (pc := 1) 0 dX12_together_1 rfl ?_
  refine mm_iload_n C (pc := 2) 1 dX12_together_2 rfl ?_
  refine mm_i2l C (pc := 3) dX12_together_3 ?_
  replace hK := mm_b2s hK; obtain ⟨v4, h4, e4, hK⟩ := hK
  obtain ⟨o4, e4⟩ := cV_some e4
  refine mm_callV C (pc := 4) (d1 := 2) (As := [.long (a1.toInt64)]) (st := [va_rf a0]) (vk := (some (.int v4))) ((S_X12_isLine (by omega)) e4) tT_X12_isLine o4 (Or.inr ⟨_, rfl, rfl⟩) wd_2307 wd_2309 wd_88 (by omega) (by decide) rfl (by simp [mm_crf, mm_cti, mm_ctl]) rfl dX12_together_4 ?_
  show V _ _ (.int v4 :: _) _
  refine mm_if_eq C (pc := 7) (tgt := 19) dX12_together_7 (by decide) (fun hc => ?_) (fun hc => ?_)
  · replace hK := mm_ip hc hK
    exact w_X12_together_19 hd C _ _ _ _ _ hK
  · replace hK := mm_in hc hK
    refine mm_aload_n C (pc := 10) 0 dX12_together_10 rfl ?_
    refine mm_iload_n C (pc := 11) 2 dX12_together_11 rfl ?_
    refine mm_i2l C (pc := 12) dX12_together_12 ?_
    replace hK := mm_b2s hK; obtain ⟨v13, h13, e13, hK⟩ := hK
    obtain ⟨o13, e13⟩ := cV_some e13
    refine mm_callV C (pc := 13) (d1 := 2) (As := [.long (a2.toInt64)]) (st := [va_rf a0]) (vk := (some (.int v13))) ((S_X12_isLine (by omega)) e13) tT_X12_isLine o13 (Or.inr ⟨_, rfl, rfl⟩) wd_2307 wd_2309 wd_88 (by omega) (by decide) rfl (by simp [mm_crf, mm_cti, mm_ctl]) rfl dX12_together_13 ?_
    show V _ _ (.int v13 :: _) _
    refine mm_if_ne C (pc := 16) (tgt := 23) dX12_together_16 (by decide) (fun hc => ?_) (fun hc => ?_)
    · replace hK := mm_in hc hK
      refine mm_iload_n C (pc := 23) 1 dX12_together_23 rfl ?_
      refine mm_iload_n C (pc := 24) 2 dX12_together_24 rfl ?_
      refine mm_icmp_ne C (pc := 25) (tgt := 32) dX12_together_25 (by decide) (fun hc => ?_) (fun hc => ?_)
      · replace hK := mm_in hc hK
        refine mm_iconst C (pc := 32) (v := (0 : Int32)) dX12_together_32 (by decide) ?_
        exact w_X12_together_33 hd C _ _ _ _ _ _ hK
      · replace hK := mm_ip hc hK
        refine mm_iconst C (pc := 28) (v := (2 : Int32)) dX12_together_28 (by decide) ?_
        refine mm_goto C (pc := 29) (tgt := 33) dX12_together_29 (by decide) ?_
        exact w_X12_together_33 hd C _ _ _ _ _ _ hK
    · replace hK := mm_ip hc hK
      exact w_X12_together_19 hd C _ _ _ _ _ hK
def F_X12_weddings_24 : Nat → Option Nat → Int32 → Int32 → MH → Option (Int32 × MH)
  | 0 => fun _ _ _ _ => none
  | n + 1 => fun l0 l1 l2 h => if l1 ≤ l2 then (mm_b2 (cV h l0 12 (F_X12_twosWed l0 h)) fun v40 h40 => (cV h40 l0 12 (F_X12_putsBack l0 h40)).bind fun h45 => some (v40, h45)) else ((cV h l0 12 (F_X12_minute l0 h)).bind fun h30 => F_X12_weddings_24 n l0 l1 (l2 + (1 : Int32)) h30)
set_option maxRecDepth 20000 in
set_option maxHeartbeats 4000000 in
theorem w_X12_weddings_24 {d : Nat} {V : Nat → List (Nat × Value) → List Value → MH → Prop} {r : Int32} {hz : MH} (hd : 8 ≤ d) (C : mm_C d yX12_weddings cX12_weddings 3 (some .int) (.inr (some (.int r))) hz V) : ∀ (n : Nat) (l0 : Option Nat) (l1 : Int32) (l2 : Int32) (h : MH), F_X12_weddings_24 n l0 l1 l2 h = some (r, hz) → V 24 [(0, va_rf l0), (1, .int l1), (2, .int l2)] [] h := by
  intro n
  induction n with
  | zero => intro l0 l1 l2 h hK; cases hK
  | succ n ih =>
    intro l0 l1 l2 h hK
    replace hK : (if l1 ≤ l2 then (mm_b2 (cV h l0 12 (F_X12_twosWed l0 h)) fun v40 h40 => (cV h40 l0 12 (F_X12_putsBack l0 h40)).bind fun h45 => some (v40, h45)) else ((cV h l0 12 (F_X12_minute l0 h)).bind fun h30 => F_X12_weddings_24 n l0 l1 (l2 + (1 : Int32)) h30)) = some (r, hz) := hK
    refine mm_iload_n C (pc := 24) 2 dX12_weddings_24 rfl ?_
    refine mm_iload_n C (pc := 25) 1 dX12_weddings_25 rfl ?_
    refine mm_icmp_ge C (pc := 26) (tgt := 39) dX12_weddings_26 (by decide) (fun hc => ?_) (fun hc => ?_)
    · replace hK := mm_ip hc hK
      refine mm_aload_n C (pc := 39) 0 dX12_weddings_39 rfl ?_
      replace hK := mm_b2s hK; obtain ⟨v40, h40, e40, hK⟩ := hK
      obtain ⟨o40, e40⟩ := cV_some e40
      refine mm_callV C (pc := 40) (d1 := 1) (As := []) (st := []) (vk := (some (.int v40))) ((S_X12_twosWed (by omega)) e40) tT_X12_twosWed o40 (Or.inr ⟨_, rfl, rfl⟩) wd_2465 wd_2467 wd_109 (by omega) (by decide) rfl (by simp [mm_crf, mm_cti, mm_ctl]) rfl dX12_weddings_40 ?_
      show V _ _ (.int v40 :: _) _
      refine mm_istore_n C (pc := 43) (i := 2) (lv' := [(2, .int v40), (0, va_rf l0), (1, .int l1)]) dX12_weddings_43 rfl (by decide) rfl ?_
      refine mm_aload_n C (pc := 44) 1 dX12_weddings_44 rfl ?_
      replace hK := mm_bd hK; obtain ⟨h45, e45, hK⟩ := hK
      obtain ⟨o45, e45⟩ := cV_some e45
      refine mm_callV C (pc := 45) (d1 := 1) (As := []) (st := []) (vk := none) ((S_X12_putsBack (by omega)) e45) tT_X12_putsBack o45 (Or.inr ⟨_, rfl, rfl⟩) wd_2469 wd_2471 wd_110 (by omega) (by decide) rfl (by simp [mm_crf, mm_cti, mm_ctl]) rfl dX12_weddings_45 ?_
      show V _ _ [] _
      refine mm_iload_n C (pc := 48) 0 dX12_weddings_48 rfl ?_
      cases hK
      exact mm_iret C (pc := 49) rfl dX12_weddings_49 rfl rfl
    · replace hK := mm_in hc hK
      refine mm_aload_n C (pc := 29) 0 dX12_weddings_29 rfl ?_
      replace hK := mm_bd hK; obtain ⟨h30, e30, hK⟩ := hK
      obtain ⟨o30, e30⟩ := cV_some e30
      refine mm_callV C (pc := 30) (d1 := 7) (As := []) (st := []) (vk := none) ((S_X12_minute (by omega)) e30) tT_X12_minute o30 (Or.inr ⟨_, rfl, rfl⟩) wd_2408 wd_2410 wd_100 (by omega) (by decide) rfl (by simp [mm_crf, mm_cti, mm_ctl]) rfl dX12_weddings_30 ?_
      show V _ _ [] _
      refine mm_iinc C (pc := 33) (v := (l2 + (1 : Int32))) (lv' := [(2, .int (l2 + (1 : Int32))), (0, va_rf l0), (1, .int l1)]) 2 dX12_weddings_33 rfl rfl (by decide) rfl ?_
      refine mm_goto C (pc := 36) (tgt := 24) dX12_weddings_36 (by decide) ?_
      refine mm_sub C [1, 2, 0] rfl ?_
      exact ih _ _ _ _ hK
def F_X12_weddings (a0 : Option Nat) (a1 : Int32) (h : MH) : Option (Int32 × MH) := (pI h a0 12 4 (0 : Int32)).bind fun h2 => mm_b2 (F_X12_isSoon a1 h2) fun v6 h6 => if v6 = 0 then (mm_b2 (cV h6 a0 12 (F_X12_fails a0 (1 : Int32) h6)) fun v14 h14 => some (v14, h14)) else ((cV h6 a0 12 (F_X12_putsAside a0 h6)).bind fun h19 => F_X12_weddings_24 mm_N a0 a1 (0 : Int32) h19)
set_option maxRecDepth 20000 in
set_option maxHeartbeats 4000000 in
theorem S_X12_weddings {d : Nat} (hd : 8 ≤ d) {a0 : Option Nat} {a1 : Int32} {h : MH} {r : Int32} {hz : MH} (hK : F_X12_weddings a0 a1 h = some (r, hz)) : mm_M yX12_weddings cX12_weddings 3 (some .int) d [va_rf a0, .int a1] h (.inr (some (.int r))) hz := by
  refine mm_ofV (by decide +kernel) (by simp [lg_sl, mm_crf, mm_cti, mm_ctl]) (fun V C => ?_)
  rw [show lv_args 0 [va_rf a0, .int a1] = [(0, va_rf a0), (1, .int a1)] by simp [lv_args, mm_crf, mm_cti, mm_ctl]]
  unfold F_X12_weddings at hK
  refine mm_aload_n C (pc := 0) 0 dX12_weddings_0 rfl ?_
  refine mm_iconst C (pc := 1) (v := (0 : Int32)) dX12_weddings_1 (by decide) ?_
  replace hK := mm_bd hK; obtain ⟨h2, e2, hK⟩ := hK
  refine mm_puti C (pc := 2) (k := 4) false (fun z => by cases z) inGX12 tyX12 tyX12_ok nmX12 rfl (by decide) wd_2003 rfl rfl dX12_weddings_2 e2 ?_
  refine mm_iload_n C (pc := 5) 1 dX12_weddings_5 rfl ?_
  replace hK := mm_b2s hK; obtain ⟨v6, h6, e6, hK⟩ := hK
  refine mm_callS C (pc := 6) (d1 := 2) (As := [.int a1]) (st := []) (vk := (some (.int v6))) ((S_X12_isSoon (by omega)) e6) tT_X12_isSoon wd_2495 wd_2496 (by omega) (by decide) rfl (by simp [mm_crf, mm_cti, mm_ctl]) rfl dX12_weddings_6 ?_
  show V _ _ (.int v6 :: _) _
  refine mm_if_ne C (pc := 9) (tgt := 18) dX12_weddings_9 (by decide) (fun hc => ?_) (fun hc => ?_)
  · replace hK := mm_in hc hK
    refine mm_aload_n C (pc := 18) 0 dX12_weddings_18 rfl ?_
    replace hK := mm_bd hK; obtain ⟨h19, e19, hK⟩ := hK
    obtain ⟨o19, e19⟩ := cV_some e19
    refine mm_callV C (pc := 19) (d1 := 1) (As := []) (st := []) (vk := none) ((S_X12_putsAside (by omega)) e19) tT_X12_putsAside o19 (Or.inr ⟨_, rfl, rfl⟩) wd_2444 wd_2446 wd_105 (by omega) (by decide) rfl (by simp [mm_crf, mm_cti, mm_ctl]) rfl dX12_weddings_19 ?_
    show V _ _ [] _
    refine mm_iconst C (pc := 22) (v := (0 : Int32)) dX12_weddings_22 (by decide) ?_
    refine mm_istore_n C (pc := 23) (i := 2) (lv' := [(2, .int (0 : Int32)), (0, va_rf a0), (1, .int a1)]) dX12_weddings_23 rfl (by decide) rfl ?_
    refine mm_sub C [1, 2, 0] rfl ?_
    exact w_X12_weddings_24 hd C _ _ _ _ _ hK
  · replace hK := mm_ip hc hK
    refine mm_aload_n C (pc := 12) 0 dX12_weddings_12 rfl ?_
    refine mm_iconst C (pc := 13) (v := (1 : Int32)) dX12_weddings_13 (by decide) ?_
    replace hK := mm_b2s hK; obtain ⟨v14, h14, e14, hK⟩ := hK
    obtain ⟨o14, e14⟩ := cV_some e14
    refine mm_callV C (pc := 14) (d1 := 1) (As := [.int (1 : Int32)]) (st := []) (vk := (some (.int v14))) ((S_X12_fails (by omega)) e14) tT_X12_fails o14 (Or.inr ⟨_, rfl, rfl⟩) wd_2160 wd_2162 wd_61 (by omega) (by decide) rfl (by simp [mm_crf, mm_cti, mm_ctl]) rfl dX12_weddings_14 ?_
    show V _ _ (.int v14 :: _) _
    cases hK
    exact mm_iret C (pc := 17) rfl dX12_weddings_17 rfl rfl
def F_X12_busiest_61 (k29 : Option Nat → Int32 → Int32 → Int32 → Int32 → MH → Option (Int32 × MH)) (l0 : Option Nat) (l1 : Int32) (l2 : Int32) (l3 : Int32) (l4 : Int32) (h : MH) : Option (Int32 × MH) := k29 l0 l1 l2 l3 (l4 + (1 : Int32)) h
set_option maxRecDepth 20000 in
set_option maxHeartbeats 4000000 in
theorem w_X12_busiest_61 {d : Nat} {V : Nat → List (Nat × Value) → List Value → MH → Prop} {r : Int32} {hz : MH} {k29 : Option Nat → Int32 → Int32 → Int32 → Int32 → MH → Option (Int32 × MH)} (hd : 8 ≤ d) (C : mm_C d yX12_busiest cX12_busiest 6 (some .int) (.inr (some (.int r))) hz V) (q29 : ∀ (x0 : Option Nat) (x1 : Int32) (x2 : Int32) (x3 : Int32) (x4 : Int32) (h : MH), k29 x0 x1 x2 x3 x4 h = some (r, hz) → V 29 [(0, va_rf x0), (1, .int x1), (2, .int x2), (3, .int x3), (4, .int x4)] [] h) (l0 : Option Nat) (l1 : Int32) (l2 : Int32) (l3 : Int32) (l4 : Int32) (h : MH) (hK : F_X12_busiest_61 k29 l0 l1 l2 l3 l4 h = some (r, hz)) : V 61 [(0, va_rf l0), (1, .int l1), (2, .int l2), (3, .int l3), (4, .int l4)] [] h := by
  unfold F_X12_busiest_61 at hK
  refine mm_iinc C (pc := 61) (v := (l4 + (1 : Int32))) (lv' := [(4, .int (l4 + (1 : Int32))), (0, va_rf l0), (1, .int l1), (2, .int l2), (3, .int l3)]) 4 dX12_busiest_61 rfl rfl (by decide) rfl ?_
  refine mm_goto C (pc := 64) (tgt := 29) dX12_busiest_64 (by decide) ?_
  refine mm_sub C [1, 2, 3, 4, 0] rfl ?_
  exact q29 _ _ _ _ _ _ hK
def F_X12_busiest_29 : Nat → Option Nat → Int32 → Int32 → Int32 → Int32 → MH → Option (Int32 × MH)
  | 0 => fun _ _ _ _ _ _ => none
  | n + 1 => fun l0 l1 l2 l3 l4 h => if l1 ≤ l4 then ((cV h l0 12 (F_X12_putsBack l0 h)).bind fun h68 => some (l2, h68)) else ((cV h l0 12 (F_X12_minute l0 h)).bind fun h36 => mm_b2 (cV h36 l0 12 (F_X12_callsThat l0 (1 : Int32) h36)) fun v41 h41 => if l3 < v41 then (F_X12_busiest_61 (F_X12_busiest_29 n) l0 l1 l4 v41 l4 h41) else (F_X12_busiest_61 (F_X12_busiest_29 n) l0 l1 l2 l3 l4 h41))
set_option maxRecDepth 20000 in
set_option maxHeartbeats 4000000 in
theorem w_X12_busiest_29 {d : Nat} {V : Nat → List (Nat × Value) → List Value → MH → Prop} {r : Int32} {hz : MH} (hd : 8 ≤ d) (C : mm_C d yX12_busiest cX12_busiest 6 (some .int) (.inr (some (.int r))) hz V) : ∀ (n : Nat) (l0 : Option Nat) (l1 : Int32) (l2 : Int32) (l3 : Int32) (l4 : Int32) (h : MH), F_X12_busiest_29 n l0 l1 l2 l3 l4 h = some (r, hz) → V 29 [(0, va_rf l0), (1, .int l1), (2, .int l2), (3, .int l3), (4, .int l4)] [] h := by
  intro n
  induction n with
  | zero => intro l0 l1 l2 l3 l4 h hK; cases hK
  | succ n ih =>
    intro l0 l1 l2 l3 l4 h hK
    replace hK : (if l1 ≤ l4 then ((cV h l0 12 (F_X12_putsBack l0 h)).bind fun h68 => some (l2, h68)) else ((cV h l0 12 (F_X12_minute l0 h)).bind fun h36 => mm_b2 (cV h36 l0 12 (F_X12_callsThat l0 (1 : Int32) h36)) fun v41 h41 => if l3 < v41 then (F_X12_busiest_61 (F_X12_busiest_29 n) l0 l1 l4 v41 l4 h41) else (F_X12_busiest_61 (F_X12_busiest_29 n) l0 l1 l2 l3 l4 h41))) = some (r, hz) := hK
    refine mm_iload C (pc := 29) 4 dX12_busiest_29 rfl ?_
    refine mm_iload_n C (pc := 31) 1 dX12_busiest_31 rfl ?_
    refine mm_icmp_ge C (pc := 32) (tgt := 67) dX12_busiest_32 (by decide) (fun hc => ?_) (fun hc => ?_)
    · replace hK := mm_ip hc hK
      refine mm_aload_n C (pc := 67) 0 dX12_busiest_67 rfl ?_
      replace hK := mm_bd hK; obtain ⟨h68, e68, hK⟩ := hK
      obtain ⟨o68, e68⟩ := cV_some e68
      refine mm_callV C (pc := 68) (d1 := 1) (As := []) (st := []) (vk := none) ((S_X12_putsBack (by omega)) e68) tT_X12_putsBack o68 (Or.inr ⟨_, rfl, rfl⟩) wd_2469 wd_2471 wd_110 (by omega) (by decide) rfl (by simp [mm_crf, mm_cti, mm_ctl]) rfl dX12_busiest_68 ?_
      show V _ _ [] _
      refine mm_iload_n C (pc := 71) 2 dX12_busiest_71 rfl ?_
      cases hK
      exact mm_iret C (pc := 72) rfl dX12_busiest_72 rfl rfl
    · replace hK := mm_in hc hK
      refine mm_aload_n C (pc := 35) 0 dX12_busiest_35 rfl ?_
      replace hK := mm_bd hK; obtain ⟨h36, e36, hK⟩ := hK
      obtain ⟨o36, e36⟩ := cV_some e36
      refine mm_callV C (pc := 36) (d1 := 7) (As := []) (st := []) (vk := none) ((S_X12_minute (by omega)) e36) tT_X12_minute o36 (Or.inr ⟨_, rfl, rfl⟩) wd_2408 wd_2410 wd_100 (by omega) (by decide) rfl (by simp [mm_crf, mm_cti, mm_ctl]) rfl dX12_busiest_36 ?_
      show V _ _ [] _
      refine mm_aload_n C (pc := 39) 0 dX12_busiest_39 rfl ?_
      refine mm_iconst C (pc := 40) (v := (1 : Int32)) dX12_busiest_40 (by decide) ?_
      replace hK := mm_b2s hK; obtain ⟨v41, h41, e41, hK⟩ := hK
      obtain ⟨o41, e41⟩ := cV_some e41
      refine mm_callV C (pc := 41) (d1 := 2) (As := [.int (1 : Int32)]) (st := []) (vk := (some (.int v41))) ((S_X12_callsThat (by omega)) e41) tT_X12_callsThat o41 (Or.inr ⟨_, rfl, rfl⟩) wd_2461 wd_2463 wd_108 (by omega) (by decide) rfl (by simp [mm_crf, mm_cti, mm_ctl]) rfl dX12_busiest_41 ?_
      show V _ _ (.int v41 :: _) _
      refine mm_istore C (pc := 44) (i := 5) (lv' := [(5, .int v41), (0, va_rf l0), (1, .int l1), (2, .int l2), (3, .int l3), (4, .int l4)]) dX12_busiest_44 (by decide) rfl ?_
      refine mm_iload C (pc := 46) 0 dX12_busiest_46 rfl ?_
      refine mm_iload_n C (pc := 48) 4 dX12_busiest_48 rfl ?_
      refine mm_icmp_gt C (pc := 49) (tgt := 55) dX12_busiest_49 (by decide) (fun hc => ?_) (fun hc => ?_)
      · replace hK := mm_ip hc hK
        refine mm_iload C (pc := 55) 5 dX12_busiest_55 rfl ?_
        refine mm_istore_n C (pc := 57) (i := 2) (lv' := [(2, .int l4), (5, .int v41), (0, va_rf l0), (1, .int l1), (3, .int l3), (4, .int l4)]) dX12_busiest_57 rfl (by decide) rfl ?_
        refine mm_iload C (pc := 58) 1 dX12_busiest_58 rfl ?_
        refine mm_istore_n C (pc := 60) (i := 3) (lv' := [(3, .int v41), (2, .int l4), (5, .int v41), (0, va_rf l0), (1, .int l1), (4, .int l4)]) dX12_busiest_60 rfl (by decide) rfl ?_
        refine mm_sub C [3, 4, 1, 0, 5] rfl ?_
        exact w_X12_busiest_61 hd C (fun z0 z1 z2 z3 z4 z5 hK => ih z0 z1 z2 z3 z4 z5 hK) _ _ _ _ _ _ hK
      · replace hK := mm_in hc hK
        refine mm_goto C (pc := 52) (tgt := 61) dX12_busiest_52 (by decide) ?_
        refine mm_sub C [1, 2, 3, 4, 5] rfl ?_
        exact w_X12_busiest_61 hd C (fun z0 z1 z2 z3 z4 z5 hK => ih z0 z1 z2 z3 z4 z5 hK) _ _ _ _ _ _ hK
def F_X12_busiest (a0 : Option Nat) (a1 : Int32) (h : MH) : Option (Int32 × MH) := (pI h a0 12 4 (0 : Int32)).bind fun h2 => mm_b2 (F_X12_isSoon a1 h2) fun v6 h6 => if v6 = 0 then (mm_b2 (cV h6 a0 12 (F_X12_fails a0 (1 : Int32) h6)) fun v14 h14 => some (v14, h14)) else ((cV h6 a0 12 (F_X12_putsAside a0 h6)).bind fun h19 => F_X12_busiest_29 mm_N a0 a1 (0 : Int32) ((-1) : Int32) (0 : Int32) h19)
set_option maxRecDepth 20000 in
set_option maxHeartbeats 4000000 in
theorem S_X12_busiest {d : Nat} (hd : 8 ≤ d) {a0 : Option Nat} {a1 : Int32} {h : MH} {r : Int32} {hz : MH} (hK : F_X12_busiest a0 a1 h = some (r, hz)) : mm_M yX12_busiest cX12_busiest 6 (some .int) d [va_rf a0, .int a1] h (.inr (some (.int r))) hz := by
  refine mm_ofV (by decide +kernel) (by simp [lg_sl, mm_crf, mm_cti, mm_ctl]) (fun V C => ?_)
  rw [show lv_args 0 [va_rf a0, .int a1] = [(0, va_rf a0), (1, .int a1)] by simp [lv_args, mm_crf, mm_cti, mm_ctl]]
  unfold F_X12_busiest at hK
  refine mm_aload_n C (pc := 0) 0 dX12_busiest_0 rfl ?_
  refine mm_iconst C (pc := 1) (v := (0 : Int32)) dX12_busiest_1 (by decide) ?_
  replace hK := mm_bd hK; obtain ⟨h2, e2, hK⟩ := hK
  refine mm_puti C (pc := 2) (k := 4) false (fun z => by cases z) inGX12 tyX12 tyX12_ok nmX12 rfl (by decide) wd_2003 rfl rfl dX12_busiest_2 e2 ?_
  refine mm_iload_n C (pc := 5) 1 dX12_busiest_5 rfl ?_
  replace hK := mm_b2s hK; obtain ⟨v6, h6, e6, hK⟩ := hK
  refine mm_callS C (pc := 6) (d1 := 2) (As := [.int a1]) (st := []) (vk := (some (.int v6))) ((S_X12_isSoon (by omega)) e6) tT_X12_isSoon wd_2495 wd_2496 (by omega) (by decide) rfl (by simp [mm_crf, mm_cti, mm_ctl]) rfl dX12_busiest_6 ?_
  show V _ _ (.int v6 :: _) _
  refine mm_if_ne C (pc := 9) (tgt := 18) dX12_busiest_9 (by decide) (fun hc => ?_) (fun hc => ?_)
  · replace hK := mm_in hc hK
    refine mm_aload_n C (pc := 18) 0 dX12_busiest_18 rfl ?_
    replace hK := mm_bd hK; obtain ⟨h19, e19, hK⟩ := hK
    obtain ⟨o19, e19⟩ := cV_some e19
    refine mm_callV C (pc := 19) (d1 := 1) (As := []) (st := []) (vk := none) ((S_X12_putsAside (by omega)) e19) tT_X12_putsAside o19 (Or.inr ⟨_, rfl, rfl⟩) wd_2444 wd_2446 wd_105 (by omega) (by decide) rfl (by simp [mm_crf, mm_cti, mm_ctl]) rfl dX12_busiest_19 ?_
    show V _ _ [] _
    refine mm_iconst C (pc := 22) (v := (0 : Int32)) dX12_busiest_22 (by decide) ?_
    refine mm_istore_n C (pc := 23) (i := 2) (lv' := [(2, .int (0 : Int32)), (0, va_rf a0), (1, .int a1)]) dX12_busiest_23 rfl (by decide) rfl ?_
    refine mm_iconst C (pc := 24) (v := ((-1) : Int32)) dX12_busiest_24 (by decide) ?_
    refine mm_istore_n C (pc := 25) (i := 3) (lv' := [(3, .int ((-1) : Int32)), (2, .int (0 : Int32)), (0, va_rf a0), (1, .int a1)]) dX12_busiest_25 rfl (by decide) rfl ?_
    refine mm_iconst C (pc := 26) (v := (0 : Int32)) dX12_busiest_26 (by decide) ?_
    refine mm_istore C (pc := 27) (i := 4) (lv' := [(4, .int (0 : Int32)), (3, .int ((-1) : Int32)), (2, .int (0 : Int32)), (0, va_rf a0), (1, .int a1)]) dX12_busiest_27 (by decide) rfl ?_
    refine mm_sub C [3, 4, 2, 1, 0] rfl ?_
    exact w_X12_busiest_29 hd C _ _ _ _ _ _ _ hK
  · replace hK := mm_ip hc hK
    refine mm_aload_n C (pc := 12) 0 dX12_busiest_12 rfl ?_
    refine mm_iconst C (pc := 13) (v := (1 : Int32)) dX12_busiest_13 (by decide) ?_
    replace hK := mm_b2s hK; obtain ⟨v14, h14, e14, hK⟩ := hK
    obtain ⟨o14, e14⟩ := cV_some e14
    refine mm_callV C (pc := 14) (d1 := 1) (As := [.int (1 : Int32)]) (st := []) (vk := (some (.int v14))) ((S_X12_fails (by omega)) e14) tT_X12_fails o14 (Or.inr ⟨_, rfl, rfl⟩) wd_2160 wd_2162 wd_61 (by omega) (by decide) rfl (by simp [mm_crf, mm_cti, mm_ctl]) rfl dX12_busiest_14 ?_
    show V _ _ (.int v14 :: _) _
    cases hK
    exact mm_iret C (pc := 17) rfl dX12_busiest_17 rfl rfl
theorem wd_2533 : Cond.constant RX12 423 (536870912 : Int32) ∈ lw_good := mm_wd 2533 (by decide +kernel) (by decide +kernel)
def F_X12_hog_117 (k34 : Option Nat → Int32 → Int32 → Int32 → Int32 → Int32 → MH → Option (Int32 × MH)) (l0 : Option Nat) (l1 : Int32) (l2 : Int32) (l3 : Int32) (l4 : Int32) (l5 : Int32) (h : MH) : Option (Int32 × MH) := k34 l0 l1 l2 l3 l4 (l5 + (1 : Int32)) h
set_option maxRecDepth 20000 in
set_option maxHeartbeats 4000000 in
theorem w_X12_hog_117 {d : Nat} {V : Nat → List (Nat × Value) → List Value → MH → Prop} {r : Int32} {hz : MH} {k34 : Option Nat → Int32 → Int32 → Int32 → Int32 → Int32 → MH → Option (Int32 × MH)} (hd : 10 ≤ d) (C : mm_C d yX12_hog cX12_hog 7 (some .int) (.inr (some (.int r))) hz V) (q34 : ∀ (x0 : Option Nat) (x1 : Int32) (x2 : Int32) (x3 : Int32) (x4 : Int32) (x5 : Int32) (h : MH), k34 x0 x1 x2 x3 x4 x5 h = some (r, hz) → V 34 [(0, va_rf x0), (1, .int x1), (2, .int x2), (3, .int x3), (4, .int x4), (5, .int x5)] [] h) (l0 : Option Nat) (l1 : Int32) (l2 : Int32) (l3 : Int32) (l4 : Int32) (l5 : Int32) (h : MH) (hK : F_X12_hog_117 k34 l0 l1 l2 l3 l4 l5 h = some (r, hz)) : V 117 [(0, va_rf l0), (1, .int l1), (2, .int l2), (3, .int l3), (4, .int l4), (5, .int l5)] [] h := by
  unfold F_X12_hog_117 at hK
  refine mm_iinc C (pc := 117) (v := (l5 + (1 : Int32))) (lv' := [(5, .int (l5 + (1 : Int32))), (0, va_rf l0), (1, .int l1), (2, .int l2), (3, .int l3), (4, .int l4)]) 5 dX12_hog_117 rfl rfl (by decide) rfl ?_
  refine mm_goto C (pc := 120) (tgt := 34) dX12_hog_120 (by decide) ?_
  refine mm_sub C [1, 2, 3, 4, 5, 0] rfl ?_
  exact q34 _ _ _ _ _ _ _ hK
def F_X12_hog_34 : Nat → Option Nat → Int32 → Int32 → Int32 → Int32 → Int32 → MH → Option (Int32 × MH)
  | 0 => fun _ _ _ _ _ _ _ => none
  | n + 1 => fun l0 l1 l2 l3 l4 l5 h => mm_b2 (cV h l0 12 (F_X12_calls l0 h)) fun v37 h37 => if v37 ≤ l5 then (some (l3, h37)) else ((gR h37 l0 12 0).bind fun v44 => (aI h37 v44 0 ((8 : Int32) + l5)).bind fun v52 => if v52 = 0 then ((cV h37 l0 12 (F_X12_putsAside l0 h37)).bind fun h60 => (gR h60 l0 12 0).bind fun v64 => (sI h60 v64 0 ((8 : Int32) + l5) (2 : Int32)).bind fun h73 => mm_b2 (cV h73 l0 12 (F_X12_lostFromHere l0 l1 h73)) fun v76 h76 => mm_b2 (F_X12_size v76 h76) fun v79 h79 => mm_b2 (F_X12_size (l2 &&& (((1 : Int32) <<< (l5 &&& 31)) ^^^ ((-1) : Int32))) h79) fun v94 h94 => if v94 ≤ v79 then (F_X12_hog_117 (F_X12_hog_34 n) l0 l1 l2 l3 l4 l5 h94) else (if v79 < l4 then (F_X12_hog_117 (F_X12_hog_34 n) l0 l1 l2 l5 v79 l5 h94) else (F_X12_hog_117 (F_X12_hog_34 n) l0 l1 l2 l3 l4 l5 h94))) else (F_X12_hog_117 (F_X12_hog_34 n) l0 l1 l2 l3 l4 l5 h37))
set_option maxRecDepth 20000 in
set_option maxHeartbeats 4000000 in
theorem w_X12_hog_34 {d : Nat} {V : Nat → List (Nat × Value) → List Value → MH → Prop} {r : Int32} {hz : MH} (hd : 10 ≤ d) (C : mm_C d yX12_hog cX12_hog 7 (some .int) (.inr (some (.int r))) hz V) : ∀ (n : Nat) (l0 : Option Nat) (l1 : Int32) (l2 : Int32) (l3 : Int32) (l4 : Int32) (l5 : Int32) (h : MH), F_X12_hog_34 n l0 l1 l2 l3 l4 l5 h = some (r, hz) → V 34 [(0, va_rf l0), (1, .int l1), (2, .int l2), (3, .int l3), (4, .int l4), (5, .int l5)] [] h := by
  intro n
  induction n with
  | zero => intro l0 l1 l2 l3 l4 l5 h hK; cases hK
  | succ n ih =>
    intro l0 l1 l2 l3 l4 l5 h hK
    replace hK : (mm_b2 (cV h l0 12 (F_X12_calls l0 h)) fun v37 h37 => if v37 ≤ l5 then (some (l3, h37)) else ((gR h37 l0 12 0).bind fun v44 => (aI h37 v44 0 ((8 : Int32) + l5)).bind fun v52 => if v52 = 0 then ((cV h37 l0 12 (F_X12_putsAside l0 h37)).bind fun h60 => (gR h60 l0 12 0).bind fun v64 => (sI h60 v64 0 ((8 : Int32) + l5) (2 : Int32)).bind fun h73 => mm_b2 (cV h73 l0 12 (F_X12_lostFromHere l0 l1 h73)) fun v76 h76 => mm_b2 (F_X12_size v76 h76) fun v79 h79 => mm_b2 (F_X12_size (l2 &&& (((1 : Int32) <<< (l5 &&& 31)) ^^^ ((-1) : Int32))) h79) fun v94 h94 => if v94 ≤ v79 then (F_X12_hog_117 (F_X12_hog_34 n) l0 l1 l2 l3 l4 l5 h94) else (if v79 < l4 then (F_X12_hog_117 (F_X12_hog_34 n) l0 l1 l2 l5 v79 l5 h94) else (F_X12_hog_117 (F_X12_hog_34 n) l0 l1 l2 l3 l4 l5 h94))) else (F_X12_hog_117 (F_X12_hog_34 n) l0 l1 l2 l3 l4 l5 h37))) = some (r, hz) := hK
    refine mm_iload C (pc := 34) 5 dX12_hog_34 rfl ?_
    refine mm_aload_n C (pc := 36) 0 dX12_hog_36 rfl ?_
    replace hK := mm_b2s hK; obtain ⟨v37, h37, e37, hK⟩ := hK
    obtain ⟨o37, e37⟩ := cV_some e37
    refine mm_callV C (pc := 37) (d1 := 1) (As := []) (st := [.int l5]) (vk := (some (.int v37))) ((S_X12_calls (by omega)) e37) tT_X12_calls o37 (Or.inr ⟨_, rfl, rfl⟩) wd_2295 wd_2297 wd_87 (by omega) (by decide) rfl (by simp [mm_crf, mm_cti, mm_ctl]) rfl dX12_hog_37 ?_
    show V _ _ (.int v37 :: _) _
    refine mm_icmp_ge C (pc := 40) (tgt := 123) dX12_hog_40 (by decide) (fun hc => ?_) (fun hc => ?_)
    · replace hK := mm_ip hc hK
      refine mm_iload_n C (pc := 123) 3 dX12_hog_123 rfl ?_
      cases hK
      exact mm_iret C (pc := 124) rfl dX12_hog_124 rfl rfl
    · replace hK := mm_in hc hK
      refine mm_aload_n C (pc := 43) 0 dX12_hog_43 rfl ?_
      replace hK := mm_bd hK; obtain ⟨v44, e44, hK⟩ := hK
      refine mm_getr C (pc := 44) (k := 0) inGX12 rfl (by decide) wd_1999 dX12_hog_44 e44 ?_
      refine mm_bipush C (pc := 47) (v := (8 : Int32)) dX12_hog_47 (by decide) ?_
      refine mm_iload C (pc := 49) 5 dX12_hog_49 rfl ?_
      refine mm_iadd C (pc := 51) dX12_hog_51 ?_
      replace hK := mm_bd hK; obtain ⟨v52, e52, hK⟩ := hK
      refine mm_iald C (pc := 52) dX12_hog_52 e52 ?_
      refine mm_if_eq C (pc := 53) (tgt := 59) dX12_hog_53 (by decide) (fun hc => ?_) (fun hc => ?_)
      · replace hK := mm_ip hc hK
        refine mm_aload_n C (pc := 59) 0 dX12_hog_59 rfl ?_
        replace hK := mm_bd hK; obtain ⟨h60, e60, hK⟩ := hK
        obtain ⟨o60, e60⟩ := cV_some e60
        refine mm_callV C (pc := 60) (d1 := 1) (As := []) (st := []) (vk := none) ((S_X12_putsAside (by omega)) e60) tT_X12_putsAside o60 (Or.inr ⟨_, rfl, rfl⟩) wd_2444 wd_2446 wd_105 (by omega) (by decide) rfl (by simp [mm_crf, mm_cti, mm_ctl]) rfl dX12_hog_60 ?_
        show V _ _ [] _
        refine mm_aload_n C (pc := 63) 0 dX12_hog_63 rfl ?_
        replace hK := mm_bd hK; obtain ⟨v64, e64, hK⟩ := hK
        refine mm_getr C (pc := 64) (k := 0) inGX12 rfl (by decide) wd_1999 dX12_hog_64 e64 ?_
        refine mm_bipush C (pc := 67) (v := (8 : Int32)) dX12_hog_67 (by decide) ?_
        refine mm_iload C (pc := 69) 5 dX12_hog_69 rfl ?_
        refine mm_iadd C (pc := 71) dX12_hog_71 ?_
        refine mm_iconst C (pc := 72) (v := (2 : Int32)) dX12_hog_72 (by decide) ?_
        replace hK := mm_bd hK; obtain ⟨h73, e73, hK⟩ := hK
        refine mm_iast C (pc := 73) dX12_hog_73 e73 ?_
        refine mm_aload_n C (pc := 74) 0 dX12_hog_74 rfl ?_
        refine mm_iload_n C (pc := 75) 1 dX12_hog_75 rfl ?_
        replace hK := mm_b2s hK; obtain ⟨v76, h76, e76, hK⟩ := hK
        obtain ⟨o76, e76⟩ := cV_some e76
        refine mm_callV C (pc := 76) (d1 := 8) (As := [.int l1]) (st := []) (vk := (some (.int v76))) ((S_X12_lostFromHere (by omega)) e76) tT_X12_lostFromHere o76 (Or.inr ⟨_, rfl, rfl⟩) wd_2502 wd_2504 wd_114 (by omega) (by decide) rfl (by simp [mm_crf, mm_cti, mm_ctl]) rfl dX12_hog_76 ?_
        show V _ _ (.int v76 :: _) _
        replace hK := mm_b2s hK; obtain ⟨v79, h79, e79, hK⟩ := hK
        refine mm_callS C (pc := 79) (d1 := 1) (As := [.int v76]) (st := []) (vk := (some (.int v79))) ((S_X12_size (by omega)) e79) tT_X12_size wd_2424 wd_2425 (by omega) (by decide) rfl (by simp [mm_crf, mm_cti, mm_ctl]) rfl dX12_hog_79 ?_
        show V _ _ (.int v79 :: _) _
        refine mm_istore C (pc := 82) (i := 6) (lv' := [(6, .int v79), (0, va_rf l0), (1, .int l1), (2, .int l2), (3, .int l3), (4, .int l4), (5, .int l5)]) dX12_hog_82 (by decide) rfl ?_
        refine mm_iload C (pc := 84) 0 dX12_hog_84 rfl ?_
        refine mm_iload_n C (pc := 86) 3 dX12_hog_86 rfl ?_
        refine mm_iconst C (pc := 87) (v := (1 : Int32)) dX12_hog_87 (by decide) ?_
        refine mm_iload C (pc := 88) 6 dX12_hog_88 rfl ?_
        refine mm_ishl C (pc := 90) dX12_hog_90 ?_
        refine mm_iconst C (pc := 91) (v := ((-1) : Int32)) dX12_hog_91 (by decide) ?_
        refine mm_ixor C (pc := 92) dX12_hog_92 ?_
        refine mm_iand C (pc := 93) dX12_hog_93 ?_
        replace hK := mm_b2s hK; obtain ⟨v94, h94, e94, hK⟩ := hK
        refine mm_callS C (pc := 94) (d1 := 1) (As := [.int (l2 &&& (((1 : Int32) <<< (l5 &&& 31)) ^^^ ((-1) : Int32)))]) (st := [.int v79]) (vk := (some (.int v94))) ((S_X12_size (by omega)) e94) tT_X12_size wd_2424 wd_2425 (by omega) (by decide) rfl (by simp [mm_crf, mm_cti, mm_ctl]) rfl dX12_hog_94 ?_
        show V _ _ (.int v94 :: _) _
        refine mm_icmp_ge C (pc := 97) (tgt := 117) dX12_hog_97 (by decide) (fun hc => ?_) (fun hc => ?_)
        · replace hK := mm_ip hc hK
          refine mm_sub C [1, 2, 3, 4, 5, 6] rfl ?_
          exact w_X12_hog_117 hd C (fun z0 z1 z2 z3 z4 z5 z6 hK => ih z0 z1 z2 z3 z4 z5 z6 hK) _ _ _ _ _ _ _ hK
        · replace hK := mm_in hc hK
          refine mm_iload C (pc := 100) 0 dX12_hog_100 rfl ?_
          refine mm_iload C (pc := 102) 5 dX12_hog_102 rfl ?_
          refine mm_icmp_lt C (pc := 104) (tgt := 110) dX12_hog_104 (by decide) (fun hc => ?_) (fun hc => ?_)
          · replace hK := mm_ip hc hK
            refine mm_iload C (pc := 110) 6 dX12_hog_110 rfl ?_
            refine mm_istore_n C (pc := 112) (i := 3) (lv' := [(3, .int l5), (6, .int v79), (0, va_rf l0), (1, .int l1), (2, .int l2), (4, .int l4), (5, .int l5)]) dX12_hog_112 rfl (by decide) rfl ?_
            refine mm_iload C (pc := 113) 1 dX12_hog_113 rfl ?_
            refine mm_istore C (pc := 115) (i := 4) (lv' := [(4, .int v79), (3, .int l5), (6, .int v79), (0, va_rf l0), (1, .int l1), (2, .int l2), (5, .int l5)]) dX12_hog_115 (by decide) rfl ?_
            refine mm_sub C [3, 4, 5, 1, 0, 6] rfl ?_
            exact w_X12_hog_117 hd C (fun z0 z1 z2 z3 z4 z5 z6 hK => ih z0 z1 z2 z3 z4 z5 z6 hK) _ _ _ _ _ _ _ hK
          · replace hK := mm_in hc hK
            refine mm_goto C (pc := 107) (tgt := 117) dX12_hog_107 (by decide) ?_
            refine mm_sub C [1, 2, 3, 4, 5, 6] rfl ?_
            exact w_X12_hog_117 hd C (fun z0 z1 z2 z3 z4 z5 z6 hK => ih z0 z1 z2 z3 z4 z5 z6 hK) _ _ _ _ _ _ _ hK
      · replace hK := mm_in hc hK
        refine mm_goto C (pc := 56) (tgt := 117) dX12_hog_56 (by decide) ?_
        exact w_X12_hog_117 hd C (fun z0 z1 z2 z3 z4 z5 z6 hK => ih z0 z1 z2 z3 z4 z5 z6 hK) _ _ _ _ _ _ _ hK
def F_X12_hog (a0 : Option Nat) (a1 : Int32) (h : MH) : Option (Int32 × MH) := (pI h a0 12 4 (0 : Int32)).bind fun h2 => mm_b2 (F_X12_isSoon a1 h2) fun v6 h6 => if v6 = 0 then (mm_b2 (cV h6 a0 12 (F_X12_fails a0 (1 : Int32) h6)) fun v14 h14 => some (v14, h14)) else (mm_b2 (cV h6 a0 12 (F_X12_lostNow a0 a1 h6)) fun v20 h20 => F_X12_hog_34 mm_N a0 a1 v20 ((-1) : Int32) (536870912 : Int32) (0 : Int32) h20)
set_option maxRecDepth 20000 in
set_option maxHeartbeats 4000000 in
theorem S_X12_hog {d : Nat} (hd : 10 ≤ d) {a0 : Option Nat} {a1 : Int32} {h : MH} {r : Int32} {hz : MH} (hK : F_X12_hog a0 a1 h = some (r, hz)) : mm_M yX12_hog cX12_hog 7 (some .int) d [va_rf a0, .int a1] h (.inr (some (.int r))) hz := by
  refine mm_ofV (by decide +kernel) (by simp [lg_sl, mm_crf, mm_cti, mm_ctl]) (fun V C => ?_)
  rw [show lv_args 0 [va_rf a0, .int a1] = [(0, va_rf a0), (1, .int a1)] by simp [lv_args, mm_crf, mm_cti, mm_ctl]]
  unfold F_X12_hog at hK
  refine mm_aload_n C (pc := 0) 0 dX12_hog_0 rfl ?_
  refine mm_iconst C (pc := 1) (v := (0 : Int32)) dX12_hog_1 (by decide) ?_
  replace hK := mm_bd hK; obtain ⟨h2, e2, hK⟩ := hK
  refine mm_puti C (pc := 2) (k := 4) false (fun z => by cases z) inGX12 tyX12 tyX12_ok nmX12 rfl (by decide) wd_2003 rfl rfl dX12_hog_2 e2 ?_
  refine mm_iload_n C (pc := 5) 1 dX12_hog_5 rfl ?_
  replace hK := mm_b2s hK; obtain ⟨v6, h6, e6, hK⟩ := hK
  refine mm_callS C (pc := 6) (d1 := 2) (As := [.int a1]) (st := []) (vk := (some (.int v6))) ((S_X12_isSoon (by omega)) e6) tT_X12_isSoon wd_2495 wd_2496 (by omega) (by decide) rfl (by simp [mm_crf, mm_cti, mm_ctl]) rfl dX12_hog_6 ?_
  show V _ _ (.int v6 :: _) _
  refine mm_if_ne C (pc := 9) (tgt := 18) dX12_hog_9 (by decide) (fun hc => ?_) (fun hc => ?_)
  · replace hK := mm_in hc hK
    refine mm_aload_n C (pc := 18) 0 dX12_hog_18 rfl ?_
    refine mm_iload_n C (pc := 19) 1 dX12_hog_19 rfl ?_
    replace hK := mm_b2s hK; obtain ⟨v20, h20, e20, hK⟩ := hK
    obtain ⟨o20, e20⟩ := cV_some e20
    refine mm_callV C (pc := 20) (d1 := 9) (As := [.int a1]) (st := []) (vk := (some (.int v20))) ((S_X12_lostNow (by omega)) e20) tT_X12_lostNow o20 (Or.inr ⟨_, rfl, rfl⟩) wd_2498 wd_2500 wd_113 (by omega) (by decide) rfl (by simp [mm_crf, mm_cti, mm_ctl]) rfl dX12_hog_20 ?_
    show V _ _ (.int v20 :: _) _
    refine mm_istore_n C (pc := 23) (i := 2) (lv' := [(2, .int v20), (0, va_rf a0), (1, .int a1)]) dX12_hog_23 rfl (by decide) rfl ?_
    refine mm_iconst C (pc := 24) (v := ((-1) : Int32)) dX12_hog_24 (by decide) ?_
    refine mm_istore_n C (pc := 25) (i := 3) (lv' := [(3, .int ((-1) : Int32)), (2, .int v20), (0, va_rf a0), (1, .int a1)]) dX12_hog_25 rfl (by decide) rfl ?_
    refine mm_ldcw C (pc := 26) (v := (536870912 : Int32)) dX12_hog_26 wd_2533 ?_
    refine mm_istore C (pc := 29) (i := 4) (lv' := [(4, .int (536870912 : Int32)), (3, .int ((-1) : Int32)), (2, .int v20), (0, va_rf a0), (1, .int a1)]) dX12_hog_29 (by decide) rfl ?_
    refine mm_iconst C (pc := 31) (v := (0 : Int32)) dX12_hog_31 (by decide) ?_
    refine mm_istore C (pc := 32) (i := 5) (lv' := [(5, .int (0 : Int32)), (4, .int (536870912 : Int32)), (3, .int ((-1) : Int32)), (2, .int v20), (0, va_rf a0), (1, .int a1)]) dX12_hog_32 (by decide) rfl ?_
    refine mm_sub C [4, 5, 3, 2, 1, 0] rfl ?_
    exact w_X12_hog_34 hd C _ _ _ _ _ _ _ _ hK
  · replace hK := mm_ip hc hK
    refine mm_aload_n C (pc := 12) 0 dX12_hog_12 rfl ?_
    refine mm_iconst C (pc := 13) (v := (1 : Int32)) dX12_hog_13 (by decide) ?_
    replace hK := mm_b2s hK; obtain ⟨v14, h14, e14, hK⟩ := hK
    obtain ⟨o14, e14⟩ := cV_some e14
    refine mm_callV C (pc := 14) (d1 := 1) (As := [.int (1 : Int32)]) (st := []) (vk := (some (.int v14))) ((S_X12_fails (by omega)) e14) tT_X12_fails o14 (Or.inr ⟨_, rfl, rfl⟩) wd_2160 wd_2162 wd_61 (by omega) (by decide) rfl (by simp [mm_crf, mm_cti, mm_ctl]) rfl dX12_hog_14 ?_
    show V _ _ (.int v14 :: _) _
    cases hK
    exact mm_iret C (pc := 17) rfl dX12_hog_17 rfl rfl
def F_X12_overlap_67 (s0 : Int32) (h : MH) : Option (Int32 × MH) := rZ s0 h
set_option maxRecDepth 20000 in
set_option maxHeartbeats 4000000 in
theorem w_X12_overlap_67 {d : Nat} {V : Nat → List (Nat × Value) → List Value → MH → Prop} {r : Int32} {hz : MH} (hd : 1 ≤ d) (C : mm_C d yX12_overlap cX12_overlap 3 (some .boolean) (.inr (some (.int r))) hz V) (s0 : Int32) (h : MH) (hK : F_X12_overlap_67 s0 h = some (r, hz)) : V 67 [] [.int s0] h := by
  unfold F_X12_overlap_67 at hK
  replace hK := rZ_some hK; obtain ⟨hv67, hK⟩ := hK
  cases hK
  exact mm_zret C (pc := 67) rfl (mm_nrZ hv67) dX12_overlap_67 rfl rfl
def F_X12_overlap_66 (h : MH) : Option (Int32 × MH) := F_X12_overlap_67 (0 : Int32) h
set_option maxRecDepth 20000 in
set_option maxHeartbeats 4000000 in
theorem w_X12_overlap_66 {d : Nat} {V : Nat → List (Nat × Value) → List Value → MH → Prop} {r : Int32} {hz : MH} (hd : 1 ≤ d) (C : mm_C d yX12_overlap cX12_overlap 3 (some .boolean) (.inr (some (.int r))) hz V) (h : MH) (hK : F_X12_overlap_66  h = some (r, hz)) : V 66 [] [] h := by
  unfold F_X12_overlap_66 at hK
  refine mm_iconst C (pc := 66) (v := (0 : Int32)) dX12_overlap_66 (by decide) ?_
  exact w_X12_overlap_67 hd C _ _ hK
def F_X12_overlap (a0 : Option Nat) (a1 : Int32) (a2 : Int32) (h : MH) : Option (Int32 × MH) := (gR h a0 12 0).bind fun v1 => (aI h v1 0 ((71 : Int32) + a1)).bind fun v8 => (gR h a0 12 0).bind fun v10 => (aI h v10 0 ((71 : Int32) + a2)).bind fun v17 => (gR h a0 12 0).bind fun v19 => (aI h v19 0 ((81 : Int32) + a2)).bind fun v26 => if (v17 + v26) ≤ v8 then (F_X12_overlap_66 h) else ((gR h a0 12 0).bind fun v32 => (aI h v32 0 ((71 : Int32) + a2)).bind fun v39 => (gR h a0 12 0).bind fun v41 => (aI h v41 0 ((71 : Int32) + a1)).bind fun v48 => (gR h a0 12 0).bind fun v50 => (aI h v50 0 ((81 : Int32) + a1)).bind fun v57 => if (v48 + v57) ≤ v39 then (F_X12_overlap_66 h) else (F_X12_overlap_67 (1 : Int32) h))
set_option maxRecDepth 20000 in
set_option maxHeartbeats 4000000 in
theorem S_X12_overlap {d : Nat} (hd : 1 ≤ d) {a0 : Option Nat} {a1 : Int32} {a2 : Int32} {h : MH} {r : Int32} {hz : MH} (hK : F_X12_overlap a0 a1 a2 h = some (r, hz)) : mm_M yX12_overlap cX12_overlap 3 (some .boolean) d [va_rf a0, .int a1, .int a2] h (.inr (some (.int r))) hz := by
  refine mm_ofV (by decide +kernel) (by simp [lg_sl, mm_crf, mm_cti, mm_ctl]) (fun V C => ?_)
  rw [show lv_args 0 [va_rf a0, .int a1, .int a2] = [(0, va_rf a0), (1, .int a1), (2, .int a2)] by simp [lv_args, mm_crf, mm_cti, mm_ctl]]
  unfold F_X12_overlap at hK
  refine mm_aload_n C (pc := 0) 0 dX12_overlap_0 rfl ?_
  replace hK := mm_bd hK; obtain ⟨v1, e1, hK⟩ := hK
  refine mm_getr C (pc := 1) (k := 0) inGX12 rfl (by decide) wd_1999 dX12_overlap_1 e1 ?_
  refine mm_bipush C (pc := 4) (v := (71 : Int32)) dX12_overlap_4 (by decide) ?_
  refine mm_iload_n C (pc := 6) 1 dX12_overlap_6 rfl ?_
  refine mm_iadd C (pc := 7) dX12_overlap_7 ?_
  replace hK := mm_bd hK; obtain ⟨v8, e8, hK⟩ := hK
  refine mm_iald C (pc := 8) dX12_overlap_8 e8 ?_
  refine mm_aload_n C (pc := 9) 0 dX12_overlap_9 rfl ?_
  replace hK := mm_bd hK; obtain ⟨v10, e10, hK⟩ := hK
  refine mm_getr C (pc := 10) (k := 0) inGX12 rfl (by decide) wd_1999 dX12_overlap_10 e10 ?_
  refine mm_bipush C (pc := 13) (v := (71 : Int32)) dX12_overlap_13 (by decide) ?_
  refine mm_iload_n C (pc := 15) 2 dX12_overlap_15 rfl ?_
  refine mm_iadd C (pc := 16) dX12_overlap_16 ?_
  replace hK := mm_bd hK; obtain ⟨v17, e17, hK⟩ := hK
  refine mm_iald C (pc := 17) dX12_overlap_17 e17 ?_
  refine mm_aload_n C (pc := 18) 0 dX12_overlap_18 rfl ?_
  replace hK := mm_bd hK; obtain ⟨v19, e19, hK⟩ := hK
  refine mm_getr C (pc := 19) (k := 0) inGX12 rfl (by decide) wd_1999 dX12_overlap_19 e19 ?_
  refine mm_bipush C (pc := 22) (v := (81 : Int32)) dX12_overlap_22 (by decide) ?_
  refine mm_iload_n C (pc := 24) 2 dX12_overlap_24 rfl ?_
  refine mm_iadd C (pc := 25) dX12_overlap_25 ?_
  replace hK := mm_bd hK; obtain ⟨v26, e26, hK⟩ := hK
  refine mm_iald C (pc := 26) dX12_overlap_26 e26 ?_
  refine mm_iadd C (pc := 27) dX12_overlap_27 ?_
  refine mm_icmp_ge C (pc := 28) (tgt := 66) dX12_overlap_28 (by decide) (fun hc => ?_) (fun hc => ?_)
  · replace hK := mm_ip hc hK
    refine mm_sub C [] rfl ?_
    exact w_X12_overlap_66 hd C _ hK
  · replace hK := mm_in hc hK
    refine mm_aload_n C (pc := 31) 0 dX12_overlap_31 rfl ?_
    replace hK := mm_bd hK; obtain ⟨v32, e32, hK⟩ := hK
    refine mm_getr C (pc := 32) (k := 0) inGX12 rfl (by decide) wd_1999 dX12_overlap_32 e32 ?_
    refine mm_bipush C (pc := 35) (v := (71 : Int32)) dX12_overlap_35 (by decide) ?_
    refine mm_iload_n C (pc := 37) 2 dX12_overlap_37 rfl ?_
    refine mm_iadd C (pc := 38) dX12_overlap_38 ?_
    replace hK := mm_bd hK; obtain ⟨v39, e39, hK⟩ := hK
    refine mm_iald C (pc := 39) dX12_overlap_39 e39 ?_
    refine mm_aload_n C (pc := 40) 0 dX12_overlap_40 rfl ?_
    replace hK := mm_bd hK; obtain ⟨v41, e41, hK⟩ := hK
    refine mm_getr C (pc := 41) (k := 0) inGX12 rfl (by decide) wd_1999 dX12_overlap_41 e41 ?_
    refine mm_bipush C (pc := 44) (v := (71 : Int32)) dX12_overlap_44 (by decide) ?_
    refine mm_iload_n C (pc := 46) 1 dX12_overlap_46 rfl ?_
    refine mm_iadd C (pc := 47) dX12_overlap_47 ?_
    replace hK := mm_bd hK; obtain ⟨v48, e48, hK⟩ := hK
    refine mm_iald C (pc := 48) dX12_overlap_48 e48 ?_
    refine mm_aload_n C (pc := 49) 0 dX12_overlap_49 rfl ?_
    replace hK := mm_bd hK; obtain ⟨v50, e50, hK⟩ := hK
    refine mm_getr C (pc := 50) (k := 0) inGX12 rfl (by decide) wd_1999 dX12_overlap_50 e50 ?_
    refine mm_bipush C (pc := 53) (v := (81 : Int32)) dX12_overlap_53 (by decide) ?_
    refine mm_iload_n C (pc := 55) 1 dX12_overlap_55 rfl ?_
    refine mm_iadd C (pc := 56) dX12_overlap_56 ?_
    replace hK := mm_bd hK; obtain ⟨v57, e57, hK⟩ := hK
    refine mm_iald C (pc := 57) dX12_overlap_57 e57 ?_
    refine mm_iadd C (pc := 58) dX12_overlap_58 ?_
    refine mm_icmp_ge C (pc := 59) (tgt := 66) dX12_overlap_59 (by decide) (fun hc => ?_) (fun hc => ?_)
    · replace hK := mm_ip hc hK
      refine mm_sub C [] rfl ?_
      exact w_X12_overlap_66 hd C _ hK
    · replace hK := mm_in hc hK
      refine mm_iconst C (pc := 62) (v := (1 : Int32)) dX12_overlap_62 (by decide) ?_
      refine mm_goto C (pc := 63) (tgt := 67) dX12_overlap_63 (by decide) ?_
      refine mm_sub C [] rfl ?_
      exact w_X12_overlap_67 hd C _ _ hK
