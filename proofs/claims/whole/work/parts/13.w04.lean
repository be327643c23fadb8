theorem wd_1595 : Cond.methodLink RX0 131 yX0_unplug ∈ lw_good := mm_wd 1595 (by decide +kernel) (by decide +kernel)
theorem wd_1594 : Cond.methodLink RX0 127 yX0_turnDoor ∈ lw_good := mm_wd 1594 (by decide +kernel) (by decide +kernel)
theorem wd_1593 : Cond.methodLink RX0 124 yX0_ring ∈ lw_good := mm_wd 1593 (by decide +kernel) (by decide +kernel)
theorem wd_1592 : Cond.methodLink RX0 121 yX0_pass ∈ lw_good := mm_wd 1592 (by decide +kernel) (by decide +kernel)
def F_X0_doTold_69 (h : MH) : Option MH := some h
set_option maxRecDepth 20000 in
set_option maxHeartbeats 4000000 in
theorem w_X0_doTold_69 {d : Nat} {V : Nat → List (Nat × Value) → List Value → MH → Prop} {hz : MH} (hd : 6 ≤ d) (C : mm_C d yX0_doTold cX0_doTold 4 none (.inr none) hz V) (h : MH) (hK : F_X0_doTold_69  h = some hz) : V 69 [] [] h := by
  unfold F_X0_doTold_69 at hK
  cases hK
  exact mm_vret C (pc := 69) rfl dX0_doTold_69 rfl rfl
def F_X0_doTold (a0 : Option Nat) (a1 : Int64) (h : MH) : Option MH := if (lg_cmp a1 ((-1) : Int64)) = 0 then (mm_b2 (cV h a0 0 (F_X0_pass a0 (1 : Int32) h)) fun v10 h10 => some h10) else (if (100 : Int32) ≤ (a1.toInt32) then (if (200 : Int32) ≤ (a1.toInt32) then (mm_b2 (cV h a0 0 (F_X0_unplug a0 ((a1.toInt32) - (200 : Int32)) h)) fun v65 h65 => F_X0_doTold_69 h65) else ((cV h a0 0 (F_X0_turnDoor a0 ((a1.toInt32) - (100 : Int32)) h)).bind fun h53 => F_X0_doTold_69 h53)) else (mm_b2 (cV h a0 0 (F_X0_ring a0 ((a1.toInt32) / (10 : Int32)) ((a1.toInt32) - (a1.toInt32) / (10 : Int32) * (10 : Int32)) (5 : Int32) h)) fun v34 h34 => F_X0_doTold_69 h34))
set_option maxRecDepth 20000 in
set_option maxHeartbeats 4000000 in
theorem S_X0_doTold {d : Nat} (hd : 6 ≤ d) {a0 : Option Nat} {a1 : Int64} {h : MH} {hz : MH} (hK : F_X0_doTold a0 a1 h = some hz) : mm_M yX0_doTold cX0_doTold 4 none d [va_rf a0, .long a1] h (.inr none) hz := by
  refine mm_ofV (by decide +kernel) (by simp [lg_sl, mm_crf, mm_cti, mm_ctl]) (fun V C => ?_)
  rw [show lv_args 0 [va_rf a0, .long a1] = [(0, va_rf a0), (1, .long a1)] by simp [lv_args, mm_crf, mm_cti, mm_ctl]]
  unfold F_X0_doTold at hK
  refine mm_lload_n C (pc := 0) 1 dX0_doTold_0 rfl ?_
  refine mm_ldc2 C (pc := 1) (v := ((-1) : Int64)) dX0_doTold_1 wd_1584 ?_
  refine mm_lcmp C (pc := 4) dX0_doTold_4 ?_
  refine mm_if_ne C (pc := 5) (tgt := 15) dX0_doTold_5 (by decide) (fun hc => ?_) (fun hc => ?_)
  · replace hK := mm_in hc hK
    refine mm_lload_n C (pc := 15) 1 dX0_doTold_15 rfl ?_
    refine mm_l2i C (pc := 16) dX0_doTold_16 ?_
    refine mm_istore_n C (pc := 17) (i := 3) (lv' := [(3, .int (a1.toInt32)), (0, va_rf a0), (1, .long a1)]) dX0_doTold_17 rfl (by decide) rfl ?_
    refine mm_iload_n C (pc := 18) 0 dX0_doTold_18 rfl ?_
    refine mm_bipush C (pc := 19) (v := (100 : Int32)) dX0_doTold_19 (by decide) ?_
    refine mm_icmp_ge C (pc := 21) (tgt := 41) dX0_doTold_21 (by decide) (fun hc => ?_) (fun hc => ?_)
    · replace hK := mm_ip hc hK
      refine mm_iload_n C (pc := 41) 0 dX0_doTold_41 rfl ?_
      refine mm_sipush C (pc := 42) (v := (200 : Int32)) dX0_doTold_42 (by decide) ?_
      refine mm_icmp_ge C (pc := 45) (tgt := 59) dX0_doTold_45 (by decide) (fun hc => ?_) (fun hc => ?_)
      · replace hK := mm_ip hc hK
        refine mm_aload_n C (pc := 59) 1 dX0_doTold_59 rfl ?_
        refine mm_iload_n C (pc := 60) 0 dX0_doTold_60 rfl ?_
        refine mm_sipush C (pc := 61) (v := (200 : Int32)) dX0_doTold_61 (by decide) ?_
        refine mm_isub C (pc := 64) dX0_doTold_64 ?_
        replace hK := mm_b2s hK; obtain ⟨v65, h65, e65, hK⟩ := hK
        obtain ⟨o65, e65⟩ := cV_some e65
        refine mm_callV C (pc := 65) (d1 := 2) (As := [.int ((a1.toInt32) - (200 : Int32))]) (st := []) (vk := (some (.int v65))) ((S_X0_unplug (by omega)) e65) tT_X0_unplug o65 (Or.inr ⟨_, rfl, rfl⟩) wd_1595 wd_965 wd_966 (by omega) (by decide) rfl (by simp [mm_crf, mm_cti, mm_ctl]) rfl dX0_doTold_65 ?_
        show V _ _ (.int v65 :: _) _
        refine mm_pop C (pc := 68) dX0_doTold_68 rfl ?_
        refine mm_sub C [] rfl ?_
        exact w_X0_doTold_69 hd C _ hK
      · replace hK := mm_in hc hK
        refine mm_aload_n C (pc := 48) 1 dX0_doTold_48 rfl ?_
        refine mm_iload_n C (pc := 49) 0 dX0_doTold_49 rfl ?_
        refine mm_bipush C (pc := 50) (v := (100 : Int32)) dX0_doTold_50 (by decide) ?_
        refine mm_isub C (pc := 52) dX0_doTold_52 ?_
        replace hK := mm_bd hK; obtain ⟨h53, e53, hK⟩ := hK
        obtain ⟨o53, e53⟩ := cV_some e53
        refine mm_callV C (pc := 53) (d1 := 2) (As := [.int ((a1.toInt32) - (100 : Int32))]) (st := []) (vk := none) ((S_X0_turnDoor (by omega)) e53) tT_X0_turnDoor o53 (Or.inr ⟨_, rfl, rfl⟩) wd_1594 wd_1506 wd_1507 (by omega) (by decide) rfl (by simp [mm_crf, mm_cti, mm_ctl]) rfl dX0_doTold_53 ?_
        show V _ _ [] _
        refine mm_goto C (pc := 56) (tgt := 69) dX0_doTold_56 (by decide) ?_
        refine mm_sub C [] rfl ?_
        exact w_X0_doTold_69 hd C _ hK
    · replace hK := mm_in hc hK
      refine mm_aload_n C (pc := 24) 1 dX0_doTold_24 rfl ?_
      refine mm_iload_n C (pc := 25) 0 dX0_doTold_25 rfl ?_
      refine mm_bipush C (pc := 26) (v := (10 : Int32)) dX0_doTold_26 (by decide) ?_
      refine mm_idiv C (pc := 28) dX0_doTold_28 (by decide) ?_
      refine mm_iload_n C (pc := 29) 0 dX0_doTold_29 rfl ?_
      refine mm_bipush C (pc := 30) (v := (10 : Int32)) dX0_doTold_30 (by decide) ?_
      refine mm_irem C (pc := 32) dX0_doTold_32 (by decide) ?_
      refine mm_iconst C (pc := 33) (v := (5 : Int32)) dX0_doTold_33 (by decide) ?_
      replace hK := mm_b2s hK; obtain ⟨v34, h34, e34, hK⟩ := hK
      obtain ⟨o34, e34⟩ := cV_some e34
      refine mm_callV C (pc := 34) (d1 := 3) (As := [.int ((a1.toInt32) / (10 : Int32)), .int ((a1.toInt32) - (a1.toInt32) / (10 : Int32) * (10 : Int32)), .int (5 : Int32)]) (st := []) (vk := (some (.int v34))) ((S_X0_ring (by omega)) e34) tT_X0_ring o34 (Or.inr ⟨_, rfl, rfl⟩) wd_1593 wd_933 wd_934 (by omega) (by decide) rfl (by simp [mm_crf, mm_cti, mm_ctl]) rfl dX0_doTold_34 ?_
      show V _ _ (.int v34 :: _) _
      refine mm_pop C (pc := 37) dX0_doTold_37 rfl ?_
      refine mm_goto C (pc := 38) (tgt := 69) dX0_doTold_38 (by decide) ?_
      refine mm_sub C [] rfl ?_
      exact w_X0_doTold_69 hd C _ hK
  · replace hK := mm_ip hc hK
    refine mm_aload_n C (pc := 8) 0 dX0_doTold_8 rfl ?_
    refine mm_iconst C (pc := 9) (v := (1 : Int32)) dX0_doTold_9 (by decide) ?_
    replace hK := mm_b2s hK; obtain ⟨v10, h10, e10, hK⟩ := hK
    obtain ⟨o10, e10⟩ := cV_some e10
    refine mm_callV C (pc := 10) (d1 := 5) (As := [.int (1 : Int32)]) (st := []) (vk := (some (.int v10))) ((S_X0_pass (by omega)) e10) tT_X0_pass o10 (Or.inr ⟨_, rfl, rfl⟩) wd_1592 wd_981 wd_982 (by omega) (by decide) rfl (by simp [mm_crf, mm_cti, mm_ctl]) rfl dX0_doTold_10 ?_
    show V _ _ (.int v10 :: _) _
    refine mm_pop C (pc := 13) dX0_doTold_13 rfl ?_
    cases hK
    exact mm_vret C (pc := 14) rfl dX0_doTold_14 rfl rfl
def F_X0_bitsOf_28 (k4 : Option Nat → Int32 → Int32 → Int32 → MH → Option (Int32 × MH)) (l0 : Option Nat) (l1 : Int32) (l2 : Int32) (l3 : Int32) (h : MH) : Option (Int32 × MH) := k4 l0 l1 l2 (l3 + (1 : Int32)) h
set_option maxRecDepth 20000 in
set_option maxHeartbeats 4000000 in
theorem w_X0_bitsOf_28 {d : Nat} {V : Nat → List (Nat × Value) → List Value → MH → Prop} {r : Int32} {hz : MH} {k4 : Option Nat → Int32 → Int32 → Int32 → MH → Option (Int32 × MH)} (hd : 2 ≤ d) (C : mm_C d yX0_bitsOf cX0_bitsOf 4 (some .int) (.inr (some (.int r))) hz V) (q4 : ∀ (x0 : Option Nat) (x1 : Int32) (x2 : Int32) (x3 : Int32) (h : MH), k4 x0 x1 x2 x3 h = some (r, hz) → V 4 [(0, va_rf x0), (1, .int x1), (2, .int x2), (3, .int x3)] [] h) (l0 : Option Nat) (l1 : Int32) (l2 : Int32) (l3 : Int32) (h : MH) (hK : F_X0_bitsOf_28 k4 l0 l1 l2 l3 h = some (r, hz)) : V 28 [(0, va_rf l0), (1, .int l1), (2, .int l2), (3, .int l3)] [] h := by
  unfold F_X0_bitsOf_28 at hK
  refine mm_iinc C (pc := 28) (v := (l3 + (1 : Int32))) (lv' := [(3, .int (l3 + (1 : Int32))), (0, va_rf l0), (1, .int l1), (2, .int l2)]) 3 dX0_bitsOf_28 rfl rfl (by decide) rfl ?_
  refine mm_goto C (pc := 31) (tgt := 4) dX0_bitsOf_31 (by decide) ?_
  refine mm_sub C [1, 2, 3, 0] rfl ?_
  exact q4 _ _ _ _ _ hK
def F_X0_bitsOf_4 : Nat → Option Nat → Int32 → Int32 → Int32 → MH → Option (Int32 × MH)
  | 0 => fun _ _ _ _ _ => none
  | n + 1 => fun l0 l1 l2 l3 h => mm_b2 (cV h l0 0 (F_X0_calls l0 h)) fun v6 h6 => if v6 ≤ l3 then (some (l2, h6)) else (mm_b2 (cV h6 l0 0 (F_X0_fact l0 l3 (4 : Int32) h6)) fun v15 h15 => if v15 = l1 then (F_X0_bitsOf_28 (F_X0_bitsOf_4 n) l0 l1 (l2 ||| ((1 : Int32) <<< (l3 &&& 31))) l3 h15) else (F_X0_bitsOf_28 (F_X0_bitsOf_4 n) l0 l1 l2 l3 h15))
set_option maxRecDepth 20000 in
set_option maxHeartbeats 4000000 in
theorem w_X0_bitsOf_4 {d : Nat} {V : Nat → List (Nat × Value) → List Value → MH → Prop} {r : Int32} {hz : MH} (hd : 2 ≤ d) (C : mm_C d yX0_bitsOf cX0_bitsOf 4 (some .int) (.inr (some (.int r))) hz V) : ∀ (n : Nat) (l0 : Option Nat) (l1 : Int32) (l2 : Int32) (l3 : Int32) (h : MH), F_X0_bitsOf_4 n l0 l1 l2 l3 h = some (r, hz) → V 4 [(0, va_rf l0), (1, .int l1), (2, .int l2), (3, .int l3)] [] h := by
  intro n
  induction n with
  | zero => intro l0 l1 l2 l3 h hK; cases hK
  | succ n ih =>
    intro l0 l1 l2 l3 h hK
    replace hK : (mm_b2 (cV h l0 0 (F_X0_calls l0 h)) fun v6 h6 => if v6 ≤ l3 then (some (l2, h6)) else (mm_b2 (cV h6 l0 0 (F_X0_fact l0 l3 (4 : Int32) h6)) fun v15 h15 => if v15 = l1 then (F_X0_bitsOf_28 (F_X0_bitsOf_4 n) l0 l1 (l2 ||| ((1 : Int32) <<< (l3 &&& 31))) l3 h15) else (F_X0_bitsOf_28 (F_X0_bitsOf_4 n) l0 l1 l2 l3 h15))) = some (r, hz) := hK
    refine mm_iload_n C (pc := 4) 3 dX0_bitsOf_4 rfl ?_
    refine mm_aload_n C (pc := 5) 0 dX0_bitsOf_5 rfl ?_
    replace hK := mm_b2s hK; obtain ⟨v6, h6, e6, hK⟩ := hK
    obtain ⟨o6, e6⟩ := cV_some e6
    refine mm_callV C (pc := 6) (d1 := 1) (As := []) (st := [.int l3]) (vk := (some (.int v6))) ((S_X0_calls (by omega)) e6) tT_X0_calls o6 (Or.inr ⟨_, rfl, rfl⟩) wd_918 wd_919 wd_920 (by omega) (by decide) rfl (by simp [mm_crf, mm_cti, mm_ctl]) rfl dX0_bitsOf_6 ?_
    show V _ _ (.int v6 :: _) _
    refine mm_icmp_ge C (pc := 9) (tgt := 34) dX0_bitsOf_9 (by decide) (fun hc => ?_) (fun hc => ?_)
    · replace hK := mm_ip hc hK
      refine mm_iload_n C (pc := 34) 2 dX0_bitsOf_34 rfl ?_
      cases hK
      exact mm_iret C (pc := 35) rfl dX0_bitsOf_35 rfl rfl
    · replace hK := mm_in hc hK
      refine mm_aload_n C (pc := 12) 0 dX0_bitsOf_12 rfl ?_
      refine mm_iload_n C (pc := 13) 3 dX0_bitsOf_13 rfl ?_
      refine mm_iconst C (pc := 14) (v := (4 : Int32)) dX0_bitsOf_14 (by decide) ?_
      replace hK := mm_b2s hK; obtain ⟨v15, h15, e15, hK⟩ := hK
      obtain ⟨o15, e15⟩ := cV_some e15
      refine mm_callV C (pc := 15) (d1 := 1) (As := [.int l3, .int (4 : Int32)]) (st := []) (vk := (some (.int v15))) ((S_X0_fact (by omega)) e15) tT_X0_fact o15 (Or.inr ⟨_, rfl, rfl⟩) wd_960 wd_961 wd_962 (by omega) (by decide) rfl (by simp [mm_crf, mm_cti, mm_ctl]) rfl dX0_bitsOf_15 ?_
      show V _ _ (.int v15 :: _) _
      refine mm_iload_n C (pc := 18) 1 dX0_bitsOf_18 rfl ?_
      refine mm_icmp_ne C (pc := 19) (tgt := 28) dX0_bitsOf_19 (by decide) (fun hc => ?_) (fun hc => ?_)
      · replace hK := mm_in hc hK
        exact w_X0_bitsOf_28 hd C (fun z0 z1 z2 z3 z4 hK => ih z0 z1 z2 z3 z4 hK) _ _ _ _ _ hK
      · replace hK := mm_ip hc hK
        refine mm_iload_n C (pc := 22) 2 dX0_bitsOf_22 rfl ?_
        refine mm_iconst C (pc := 23) (v := (1 : Int32)) dX0_bitsOf_23 (by decide) ?_
        refine mm_iload_n C (pc := 24) 3 dX0_bitsOf_24 rfl ?_
        refine mm_ishl C (pc := 25) dX0_bitsOf_25 ?_
        refine mm_ior C (pc := 26) dX0_bitsOf_26 ?_
        refine mm_istore_n C (pc := 27) (i := 2) (lv' := [(2, .int (l2 ||| ((1 : Int32) <<< (l3 &&& 31)))), (0, va_rf l0), (1, .int l1), (3, .int l3)]) dX0_bitsOf_27 rfl (by decide) rfl ?_
        refine mm_sub C [1, 2, 0, 3] rfl ?_
        exact w_X0_bitsOf_28 hd C (fun z0 z1 z2 z3 z4 hK => ih z0 z1 z2 z3 z4 hK) _ _ _ _ _ hK
def F_X0_bitsOf (a0 : Option Nat) (a1 : Int32) (h : MH) : Option (Int32 × MH) := F_X0_bitsOf_4 mm_N a0 a1 (0 : Int32) (0 : Int32) h
set_option maxRecDepth 20000 in
set_option maxHeartbeats 4000000 in
theorem S_X0_bitsOf {d : Nat} (hd : 2 ≤ d) {a0 : Option Nat} {a1 : Int32} {h : MH} {r : Int32} {hz : MH} (hK : F_X0_bitsOf a0 a1 h = some (r, hz)) : mm_M yX0_bitsOf cX0_bitsOf 4 (some .int) d [va_rf a0, .int a1] h (.inr (some (.int r))) hz := by
  refine mm_ofV (by decide +kernel) (by simp [lg_sl, mm_crf, mm_cti, mm_ctl]) (fun V C => ?_)
  rw [show lv_args 0 [va_rf a0, .int a1] = [(0, va_rf a0), (1, .int a1)] by simp [lv_args, mm_crf, mm_cti, mm_ctl]]
  unfold F_X0_bitsOf at hK
  refine mm_iconst C (pc := 0) (v := (0 : Int32)) dX0_bitsOf_0 (by decide) ?_
  refine mm_istore_n C (pc := 1) (i := 2) (lv' := [(2, .int (0 : Int32)), (0, va_rf a0), (1, .int a1)]) dX0_bitsOf_1 rfl (by decide) rfl ?_
  refine mm_iconst C (pc := 2) (v := (0 : Int32)) dX0_bitsOf_2 (by decide) ?_
  refine mm_istore_n C (pc := 3) (i := 3) (lv' := [(3, .int (0 : Int32)), (2, .int (0 : Int32)), (0, va_rf a0), (1, .int a1)]) dX0_bitsOf_3 rfl (by decide) rfl ?_
  refine mm_sub C [2, 3, 1, 0] rfl ?_
  exact w_X0_bitsOf_4 hd C _ _ _ _ _ _ hK
theorem dJ6_bitCount_0f7a4_0 : decode cJ6_bitCount_0f7a4 0 = .ok (.iload_n 0, 1) := by decide +kernel
theorem dJ6_bitCount_0f7a4_1 : decode cJ6_bitCount_0f7a4 1 = .ok (.iload_n 0, 1) := by decide +kernel
theorem dJ6_bitCount_0f7a4_2 : decode cJ6_bitCount_0f7a4 2 = .ok (.iconst 1, 1) := by decide +kernel
theorem dJ6_bitCount_0f7a4_3 : decode cJ6_bitCount_0f7a4 3 = .ok (.iushr, 1) := by decide +kernel
theorem dJ6_bitCount_0f7a4_4 : decode cJ6_bitCount_0f7a4 4 = .ok (.ldc_w 265, 3) := by decide +kernel
theorem dJ6_bitCount_0f7a4_7 : decode cJ6_bitCount_0f7a4 7 = .ok (.iand, 1) := by decide +kernel
theorem dJ6_bitCount_0f7a4_8 : decode cJ6_bitCount_0f7a4 8 = .ok (.isub, 1) := by decide +kernel
theorem dJ6_bitCount_0f7a4_9 : decode cJ6_bitCount_0f7a4 9 = .ok (.istore_n 0, 1) := by decide +kernel
theorem dJ6_bitCount_0f7a4_10 : decode cJ6_bitCount_0f7a4 10 = .ok (.iload_n 0, 1) := by decide +kernel
theorem dJ6_bitCount_0f7a4_11 : decode cJ6_bitCount_0f7a4 11 = .ok (.ldc_w 266, 3) := by decide +kernel
theorem dJ6_bitCount_0f7a4_14 : decode cJ6_bitCount_0f7a4 14 = .ok (.iand, 1) := by decide +kernel
theorem dJ6_bitCount_0f7a4_15 : decode cJ6_bitCount_0f7a4 15 = .ok (.iload_n 0, 1) := by decide +kernel
theorem dJ6_bitCount_0f7a4_16 : decode cJ6_bitCount_0f7a4 16 = .ok (.iconst 2, 1) := by decide +kernel
theorem dJ6_bitCount_0f7a4_17 : decode cJ6_bitCount_0f7a4 17 = .ok (.iushr, 1) := by decide +kernel
theorem dJ6_bitCount_0f7a4_18 : decode cJ6_bitCount_0f7a4 18 = .ok (.ldc_w 266, 3) := by decide +kernel
theorem dJ6_bitCount_0f7a4_21 : decode cJ6_bitCount_0f7a4 21 = .ok (.iand, 1) := by decide +kernel
theorem dJ6_bitCount_0f7a4_22 : decode cJ6_bitCount_0f7a4 22 = .ok (.iadd, 1) := by decide +kernel
theorem dJ6_bitCount_0f7a4_23 : decode cJ6_bitCount_0f7a4 23 = .ok (.istore_n 0, 1) := by decide +kernel
theorem dJ6_bitCount_0f7a4_24 : decode cJ6_bitCount_0f7a4 24 = .ok (.iload_n 0, 1) := by decide +kernel
theorem dJ6_bitCount_0f7a4_25 : decode cJ6_bitCount_0f7a4 25 = .ok (.iload_n 0, 1) := by decide +kernel
theorem dJ6_bitCount_0f7a4_26 : decode cJ6_bitCount_0f7a4 26 = .ok (.iconst 4, 1) := by decide +kernel
theorem dJ6_bitCount_0f7a4_27 : decode cJ6_bitCount_0f7a4 27 = .ok (.iushr, 1) := by decide +kernel
theorem dJ6_bitCount_0f7a4_28 : decode cJ6_bitCount_0f7a4 28 = .ok (.iadd, 1) := by decide +kernel
theorem dJ6_bitCount_0f7a4_29 : decode cJ6_bitCount_0f7a4 29 = .ok (.ldc_w 267, 3) := by decide +kernel
theorem dJ6_bitCount_0f7a4_32 : decode cJ6_bitCount_0f7a4 32 = .ok (.iand, 1) := by decide +kernel
theorem dJ6_bitCount_0f7a4_33 : decode cJ6_bitCount_0f7a4 33 = .ok (.istore_n 0, 1) := by decide +kernel
theorem dJ6_bitCount_0f7a4_34 : decode cJ6_bitCount_0f7a4 34 = .ok (.iload_n 0, 1) := by decide +kernel
theorem dJ6_bitCount_0f7a4_35 : decode cJ6_bitCount_0f7a4 35 = .ok (.iload_n 0, 1) := by decide +kernel
theorem dJ6_bitCount_0f7a4_36 : decode cJ6_bitCount_0f7a4 36 = .ok (.bipush 8, 2) := by decide +kernel
theorem dJ6_bitCount_0f7a4_38 : decode cJ6_bitCount_0f7a4 38 = .ok (.iushr, 1) := by decide +kernel
theorem dJ6_bitCount_0f7a4_39 : decode cJ6_bitCount_0f7a4 39 = .ok (.iadd, 1) := by decide +kernel
theorem dJ6_bitCount_0f7a4_40 : decode cJ6_bitCount_0f7a4 40 = .ok (.istore_n 0, 1) := by decide +kernel
theorem dJ6_bitCount_0f7a4_41 : decode cJ6_bitCount_0f7a4 41 = .ok (.iload_n 0, 1) := by decide +kernel
theorem dJ6_bitCount_0f7a4_42 : decode cJ6_bitCount_0f7a4 42 = .ok (.iload_n 0, 1) := by decide +kernel
theorem dJ6_bitCount_0f7a4_43 : decode cJ6_bitCount_0f7a4 43 = .ok (.bipush 16, 2) := by decide +kernel
theorem dJ6_bitCount_0f7a4_45 : decode cJ6_bitCount_0f7a4 45 = .ok (.iushr, 1) := by decide +kernel
theorem dJ6_bitCount_0f7a4_46 : decode cJ6_bitCount_0f7a4 46 = .ok (.iadd, 1) := by decide +kernel
theorem dJ6_bitCount_0f7a4_47 : decode cJ6_bitCount_0f7a4 47 = .ok (.istore_n 0, 1) := by decide +kernel
theorem dJ6_bitCount_0f7a4_48 : decode cJ6_bitCount_0f7a4 48 = .ok (.iload_n 0, 1) := by decide +kernel
theorem dJ6_bitCount_0f7a4_49 : decode cJ6_bitCount_0f7a4 49 = .ok (.bipush 63, 2) := by decide +kernel
theorem dJ6_bitCount_0f7a4_51 : decode cJ6_bitCount_0f7a4 51 = .ok (.iand, 1) := by decide +kernel
theorem dJ6_bitCount_0f7a4_52 : decode cJ6_bitCount_0f7a4 52 = .ok (.ireturn, 1) := by decide +kernel
theorem wd_1085 : Cond.constant RJ6 265 (1431655765 : Int32) ∈ lw_good := mm_wd 1085 (by decide +kernel) (by decide +kernel)
theorem wd_1086 : Cond.constant RJ6 266 (858993459 : Int32) ∈ lw_good := mm_wd 1086 (by decide +kernel) (by decide +kernel)
theorem wd_1087 : Cond.constant RJ6 267 (252645135 : Int32) ∈ lw_good := mm_wd 1087 (by decide +kernel) (by decide +kernel)
def F_J6_bitCount_0f7a4 (a0 : Int32) (h : MH) : Option (Int32 × MH) := some (((((((((a0 - (((a0.toUInt32 >>> ((1 : Int32).toUInt32 &&& Int32.toUInt32 31)).toInt32) &&& (1431655765 : Int32))) &&& (858993459 : Int32)) + ((((a0 - (((a0.toUInt32 >>> ((1 : Int32).toUInt32 &&& Int32.toUInt32 31)).toInt32) &&& (1431655765 : Int32))).toUInt32 >>> ((2 : Int32).toUInt32 &&& Int32.toUInt32 31)).toInt32) &&& (858993459 : Int32))) + (((((a0 - (((a0.toUInt32 >>> ((1 : Int32).toUInt32 &&& Int32.toUInt32 31)).toInt32) &&& (1431655765 : Int32))) &&& (858993459 : Int32)) + ((((a0 - (((a0.toUInt32 >>> ((1 : Int32).toUInt32 &&& Int32.toUInt32 31)).toInt32) &&& (1431655765 : Int32))).toUInt32 >>> ((2 : Int32).toUInt32 &&& Int32.toUInt32 31)).toInt32) &&& (858993459 : Int32))).toUInt32 >>> ((4 : Int32).toUInt32 &&& Int32.toUInt32 31)).toInt32)) &&& (252645135 : Int32)) + (((((((a0 - (((a0.toUInt32 >>> ((1 : Int32).toUInt32 &&& Int32.toUInt32 31)).toInt32) &&& (1431655765 : Int32))) &&& (858993459 : Int32)) + ((((a0 - (((a0.toUInt32 >>> ((1 : Int32).toUInt32 &&& Int32.toUInt32 31)).toInt32) &&& (1431655765 : Int32))).toUInt32 >>> ((2 : Int32).toUInt32 &&& Int32.toUInt32 31)).toInt32) &&& (858993459 : Int32))) + (((((a0 - (((a0.toUInt32 >>> ((1 : Int32).toUInt32 &&& Int32.toUInt32 31)).toInt32) &&& (1431655765 : Int32))) &&& (858993459 : Int32)) + ((((a0 - (((a0.toUInt32 >>> ((1 : Int32).toUInt32 &&& Int32.toUInt32 31)).toInt32) &&& (1431655765 : Int32))).toUInt32 >>> ((2 : Int32).toUInt32 &&& Int32.toUInt32 31)).toInt32) &&& (858993459 : Int32))).toUInt32 >>> ((4 : Int32).toUInt32 &&& Int32.toUInt32 31)).toInt32)) &&& (252645135 : Int32)).toUInt32 >>> ((8 : Int32).toUInt32 &&& Int32.toUInt32 31)).toInt32)) + ((((((((a0 - (((a0.toUInt32 >>> ((1 : Int32).toUInt32 &&& Int32.toUInt32 31)).toInt32) &&& (1431655765 : Int32))) &&& (858993459 : Int32)) + ((((a0 - (((a0.toUInt32 >>> ((1 : Int32).toUInt32 &&& Int32.toUInt32 31)).toInt32) &&& (1431655765 : Int32))).toUInt32 >>> ((2 : Int32).toUInt32 &&& Int32.toUInt32 31)).toInt32) &&& (858993459 : Int32))) + (((((a0 - (((a0.toUInt32 >>> ((1 : Int32).toUInt32 &&& Int32.toUInt32 31)).toInt32) &&& (1431655765 : Int32))) &&& (858993459 : Int32)) + ((((a0 - (((a0.toUInt32 >>> ((1 : Int32).toUInt32 &&& Int32.toUInt32 31)).toInt32) &&& (1431655765 : Int32))).toUInt32 >>> ((2 : Int32).toUInt32 &&& Int32.toUInt32 31)).toInt32) &&& (858993459 : Int32))).toUInt32 >>> ((4 : Int32).toUInt32 &&& Int32.toUInt32 31)).toInt32)) &&& (252645135 : Int32)) + (((((((a0 - (((a0.toUInt32 >>> ((1 : Int32).toUInt32 &&& Int32.toUInt32 31)).toInt32) &&& (1431655765 : Int32))) &&& (858993459 : Int32)) + ((((a0 - (((a0.toUInt32 >>> ((1 : Int32).toUInt32 &&& Int32.toUInt32 31)).toInt32) &&& (1431655765 : Int32))).toUInt32 >>> ((2 : Int32).toUInt32 &&& Int32.toUInt32 31)).toInt32) &&& (858993459 : Int32))) + (((((a0 - (((a0.toUInt32 >>> ((1 : Int32).toUInt32 &&& Int32.toUInt32 31)).toInt32) &&& (1431655765 : Int32))) &&& (858993459 : Int32)) + ((((a0 - (((a0.toUInt32 >>> ((1 : Int32).toUInt32 &&& Int32.toUInt32 31)).toInt32) &&& (1431655765 : Int32))).toUInt32 >>> ((2 : Int32).toUInt32 &&& Int32.toUInt32 31)).toInt32) &&& (858993459 : Int32))).toUInt32 >>> ((4 : Int32).toUInt32 &&& Int32.toUInt32 31)).toInt32)) &&& (252645135 : Int32)).toUInt32 >>> ((8 : Int32).toUInt32 &&& Int32.toUInt32 31)).toInt32)).toUInt32 >>> ((16 : Int32).toUInt32 &&& Int32.toUInt32 31)).toInt32)) &&& (63 : Int32)), h)
set_option maxRecDepth 20000 in
set_option maxHeartbeats 4000000 in
theorem S_J6_bitCount_0f7a4 {d : Nat} (hd : 1 ≤ d) {a0 : Int32} {h : MH} {r : Int32} {hz : MH} (hK : F_J6_bitCount_0f7a4 a0 h = some (r, hz)) : mm_M yJ6_bitCount_0f7a4 cJ6_bitCount_0f7a4 1 (some .int) d [.int a0] h (.inr (some (.int r))) hz := by
  refine mm_ofV (by decide +kernel) (by simp [lg_sl, mm_crf, mm_cti, mm_ctl]) (fun V C => ?_)
  rw [show lv_args 0 [.int a0] = [(0, .int a0)] by simp [lv_args, mm_crf, mm_cti, mm_ctl]]
  unfold F_J6_bitCount_0f7a4 at hK
  refine mm_iload_n C (pc := 0) 0 dJ6_bitCount_0f7a4_0 rfl ?_
  refine mm_iload_n C (pc := 1) 0 dJ6_bitCount_0f7a4_1 rfl ?_
  refine mm_iconst C (pc := 2) (v := (1 : Int32)) dJ6_bitCount_0f7a4_2 (by decide) ?_
  refine mm_iushr C (pc := 3) dJ6_bitCount_0f7a4_3 ?_
  refine mm_ldcw C (pc := 4) (v := (1431655765 : Int32)) dJ6_bitCount_0f7a4_4 wd_1085 ?_
  refine mm_iand C (pc := 7) dJ6_bitCount_0f7a4_7 ?_
  refine mm_isub C (pc := 8) dJ6_bitCount_0f7a4_8 ?_
  refine mm_istore_n C (pc := 9) (i := 0) (lv' := [(0, .int (a0 - (((a0.toUInt32 >>> ((1 : Int32).toUInt32 &&& Int32.toUInt32 31)).toInt32) &&& (1431655765 : Int32))))]) dJ6_bitCount_0f7a4_9 rfl (by decide) rfl ?_
  refine mm_iload_n C (pc := 10) 0 dJ6_bitCount_0f7a4_10 rfl ?_
  refine mm_ldcw C (pc := 11) (v := (858993459 : Int32)) dJ6_bitCount_0f7a4_11 wd_1086 ?_
  refine mm_iand C (pc := 14) dJ6_bitCount_0f7a4_14 ?_
  refine mm_iload_n C (pc := 15) 0 dJ6_bitCount_0f7a4_15 rfl ?_
  refine mm_iconst C (pc := 16) (v := (2 : Int32)) dJ6_bitCount_0f7a4_16 (by decide) ?_
  refine mm_iushr C (pc := 17) dJ6_bitCount_0f7a4_17 ?_
  refine mm_ldcw C (pc := 18) (v := (858993459 : Int32)) dJ6_bitCount_0f7a4_18 wd_1086 ?_
  refine mm_iand C (pc := 21) dJ6_bitCount_0f7a4_21 ?_
  refine mm_iadd C (pc := 22) dJ6_bitCount_0f7a4_22 ?_
  refine mm_istore_n C (pc := 23) (i := 0) (lv' := [(0, .int (((a0 - (((a0.toUInt32 >>> ((1 : Int32).toUInt32 &&& Int32.toUInt32 31)).toInt32) &&& (1431655765 : Int32))) &&& (858993459 : Int32)) + ((((a0 - (((a0.toUInt32 >>> ((1 : Int32).toUInt32 &&& Int32.toUInt32 31)).toInt32) &&& (1431655765 : Int32))).toUInt32 >>> ((2 : Int32).toUInt32 &&& Int32.toUInt32 31)).toInt32) &&& (858993459 : Int32))))]) dJ6_bitCount_0f7a4_23 rfl (by decide) rfl ?_
  refine mm_iload_n C (pc := 24) 0 dJ6_bitCount_0f7a4_24 rfl ?_
  refine mm_iload_n C (pc := 25) 0 dJ6_bitCount_0f7a4_25 rfl ?_
  refine mm_iconst C (pc := 26) (v := (4 : Int32)) dJ6_bitCount_0f7a4_26 (by decide) ?_
  refine mm_iushr C (pc := 27) dJ6_bitCount_0f7a4_27 ?_
  refine mm_iadd C (pc := 28) dJ6_bitCount_0f7a4_28 ?_
  refine mm_ldcw C (pc := 29) (v := (252645135 : Int32)) dJ6_bitCount_0f7a4_29 wd_1087 ?_
  refine mm_iand C (pc := 32) dJ6_bitCount_0f7a4_32 ?_
  refine mm_istore_n C (pc := 33) (i := 0) (lv' := [(0, .int (((((a0 - (((a0.toUInt32 >>> ((1 : Int32).toUInt32 &&& Int32.toUInt32 31)).toInt32) &&& (1431655765 : Int32))) &&& (858993459 : Int32)) + ((((a0 - (((a0.toUInt32 >>> ((1 : Int32).toUInt32 &&& Int32.toUInt32 31)).toInt32) &&& (1431655765 : Int32))).toUInt32 >>> ((2 : Int32).toUInt32 &&& Int32.toUInt32 31)).toInt32) &&& (858993459 : Int32))) + (((((a0 - (((a0.toUInt32 >>> ((1 : Int32).toUInt32 &&& Int32.toUInt32 31)).toInt32) &&& (1431655765 : Int32))) &&& (858993459 : Int32)) + ((((a0 - (((a0.toUInt32 >>> ((1 : Int32).toUInt32 &&& Int32.toUInt32 31)).toInt32) &&& (1431655765 : Int32))).toUInt32 >>> ((2 : Int32).toUInt32 &&& Int32.toUInt32 31)).toInt32) &&& (858993459 : Int32))).toUInt32 >>> ((4 : Int32).toUInt32 &&& Int32.toUInt32 31)).toInt32)) &&& (252645135 : Int32)))]) dJ6_bitCount_0f7a4_33 rfl (by decide) rfl ?_
  refine mm_iload_n C (pc := 34) 0 dJ6_bitCount_0f7a4_34 rfl ?_
  refine mm_iload_n C (pc := 35) 0 dJ6_bitCount_0f7a4_35 rfl ?_
  refine mm_bipush C (pc := 36) (v := (8 : Int32)) dJ6_bitCount_0f7a4_36 (by decide) ?_
  refine mm_iushr C (pc := 38) dJ6_bitCount_0f7a4_38 ?_
  refine mm_iadd C (pc := 39) dJ6_bitCount_0f7a4_39 ?_
  refine mm_istore_n C (pc := 40) (i := 0) (lv' := [(0, .int ((((((a0 - (((a0.toUInt32 >>> ((1 : Int32).toUInt32 &&& Int32.toUInt32 31)).toInt32) &&& (1431655765 : Int32))) &&& (858993459 : Int32)) + ((((a0 - (((a0.toUInt32 >>> ((1 : Int32).toUInt32 &&& Int32.toUInt32 31)).toInt32) &&& (1431655765 : Int32))).toUInt32 >>> ((2 : Int32).toUInt32 &&& Int32.toUInt32 31)).toInt32) &&& (858993459 : Int32))) + (((((a0 - (((a0.toUInt32 >>> ((1 : Int32).toUInt32 &&& Int32.toUInt32 31)).toInt32) &&& (1431655765 : Int32))) &&& (858993459 : Int32)) + ((((a0 - (((a0.toUInt32 >>> ((1 : Int32).toUInt32 &&& Int32.toUInt32 31)).toInt32) &&& (1431655765 : Int32))).toUInt32 >>> ((2 : Int32).toUInt32 &&& Int32.toUInt32 31)).toInt32) &&& (858993459 : Int32))).toUInt32 >>> ((4 : Int32).toUInt32 &&& Int32.toUInt32 31)).toInt32)) &&& (252645135 : Int32)) + (((((((a0 - (((a0.toUInt32 >>> ((1 : Int32).toUInt32 &&& Int32.toUInt32 31)).toInt32) &&& (1431655765 : Int32))) &&& (858993459 : Int32)) + ((((a0 - (((a0.toUInt32 >>> ((1 : Int32).toUInt32 &&& Int32.toUInt32 31)).toInt32) &&& (1431655765 : Int32))).toUInt32 >>> ((2 : Int32).toUInt32 &&& Int32.toUInt32 31)).toInt32) &&& (858993459 : Int32))) + (((((a0 - (((a0.toUInt32 >>> ((1 : Int32).toUInt32 &&& Int32.toUInt32 31)).toInt32) &&& (1431655765 : Int32))) &&& (858993459 : Int32)) + ((((a0 - (((a0.toUInt32 >>> ((1 : Int32).toUInt32 &&& Int32.toUInt32 31)).toInt32) &&& (1431655765 : Int32))).toUInt32 >>> ((2 : Int32).toUInt32 &&& Int32.toUInt32 31)).toInt32) &&& (858993459 : Int32))).toUInt32 >>> ((4 : Int32).toUInt32 &&& Int32.toUInt32 31)).toInt32)) &&& (252645135 : Int32)).toUInt32 >>> ((8 : Int32).toUInt32 &&& Int32.toUInt32 31)).toInt32)))]) dJ6_bitCount_0f7a4_40 rfl (by decide) rfl ?_
  refine mm_iload_n C (pc := 41) 0 dJ6_bitCount_0f7a4_41 rfl ?_
  refine mm_iload_n C (pc := 42) 0 dJ6_bitCount_0f7a4_42 rfl ?_
  refine mm_bipush C (pc := 43) (v := (16 : Int32)) dJ6_bitCount_0f7a4_43 (by decide) ?_
  refine mm_iushr C (pc := 45) dJ6_bitCount_0f7a4_45 ?_
  refine mm_iadd C (pc := 46) dJ6_bitCount_0f7a4_46 ?_
  refine mm_istore_n C (pc := 47) (i := 0) (lv' := [(0, .int (((((((a0 - (((a0.toUInt32 >>> ((1 : Int32).toUInt32 &&& Int32.toUInt32 31)).toInt32) &&& (1431655765 : Int32))) &&& (858993459 : Int32)) + ((((a0 - (((a0.toUInt32 >>> ((1 : Int32).toUInt32 &&& Int32.toUInt32 31)).toInt32) &&& (1431655765 : Int32))).toUInt32 >>> ((2 : Int32).toUInt32 &&& Int32.toUInt32 31)).toInt32) &&& (858993459 : Int32))) + (((((a0 - (((a0.toUInt32 >>> ((1 : Int32).toUInt32 &&& Int32.toUInt32 31)).toInt32) &&& (1431655765 : Int32))) &&& (858993459 : Int32)) + ((((a0 - (((a0.toUInt32 >>> ((1 : Int32).toUInt32 &&& Int32.toUInt32 31)).toInt32) &&& (1431655765 : Int32))).toUInt32 >>> ((2 : Int32).toUInt32 &&& Int32.toUInt32 31)).toInt32) &&& (858993459 : Int32))).toUInt32 >>> ((4 : Int32).toUInt32 &&& Int32.toUInt32 31)).toInt32)) &&& (252645135 : Int32)) + (((((((a0 - (((a0.toUInt32 >>> ((1 : Int32).toUInt32 &&& Int32.toUInt32 31)).toInt32) &&& (1431655765 : Int32))) &&& (858993459 : Int32)) + ((((a0 - (((a0.toUInt32 >>> ((1 : Int32).toUInt32 &&& Int32.toUInt32 31)).toInt32) &&& (1431655765 : Int32))).toUInt32 >>> ((2 : Int32).toUInt32 &&& Int32.toUInt32 31)).toInt32) &&& (858993459 : Int32))) + (((((a0 - (((a0.toUInt32 >>> ((1 : Int32).toUInt32 &&& Int32.toUInt32 31)).toInt32) &&& (1431655765 : Int32))) &&& (858993459 : Int32)) + ((((a0 - (((a0.toUInt32 >>> ((1 : Int32).toUInt32 &&& Int32.toUInt32 31)).toInt32) &&& (1431655765 : Int32))).toUInt32 >>> ((2 : Int32).toUInt32 &&& Int32.toUInt32 31)).toInt32) &&& (858993459 : Int32))).toUInt32 >>> ((4 : Int32).toUInt32 &&& Int32.toUInt32 31)).toInt32)) &&& (252645135 : Int32)).toUInt32 >>> ((8 : Int32).toUInt32 &&& Int32.toUInt32 31)).toInt32)) + ((((((((a0 - (((a0.toUInt32 >>> ((1 : Int32).toUInt32 &&& Int32.toUInt32 31)).toInt32) &&& (1431655765 : Int32))) &&& (858993459 : Int32)) + ((((a0 - (((a0.toUInt32 >>> ((1 : Int32).toUInt32 &&& Int32.toUInt32 31)).toInt32) &&& (1431655765 : Int32))).toUInt32 >>> ((2 : Int32).toUInt32 &&& Int32.toUInt32 31)).toInt32) &&& (858993459 : Int32))) + (((((a0 - (((a0.toUInt32 >>> ((1 : Int32).toUInt32 &&& Int32.toUInt32 31)).toInt32) &&& (1431655765 : Int32))) &&& (858993459 : Int32)) + ((((a0 - (((a0.toUInt32 >>> ((1 : Int32).toUInt32 &&& Int32.toUInt32 31)).toInt32) &&& (1431655765 : Int32))).toUInt32 >>> ((2 : Int32).toUInt32 &&& Int32.toUInt32 31)).toInt32) &&& (858993459 : Int32))).toUInt32 >>> ((4 : Int32).toUInt32 &&& Int32.toUInt32 31)).toInt32)) &&& (252645135 : Int32)) + (((((((a0 - (((a0.toUInt32 >>> ((1 : Int32).toUInt32 &&& Int32.toUInt32 31)).toInt32) &&& (1431655765 : Int32))) &&& (858993459 : Int32)) + ((((a0 - (((a0.toUInt32 >>> ((1 : Int32).toUInt32 &&& Int32.toUInt32 31)).toInt32) &&& (1431655765 : Int32))).toUInt32 >>> ((2 : Int32).toUInt32 &&& Int32.toUInt32 31)).toInt32) &&& (858993459 : Int32))) + (((((a0 - (((a0.toUInt32 >>> ((1 : Int32).toUInt32 &&& Int32.toUInt32 31)).toInt32) &&& (1431655765 : Int32))) &&& (858993459 : Int32)) + ((((a0 - (((a0.toUInt32 >>> ((1 : Int32).toUInt32 &&& Int32.toUInt32 31)).toInt32) &&& (1431655765 : Int32))).toUInt32 >>> ((2 : Int32).toUInt32 &&& Int32.toUInt32 31)).toInt32) &&& (858993459 : Int32))).toUInt32 >>> ((4 : Int32).toUInt32 &&& Int32.toUInt32 31)).toInt32)) &&& (252645135 : Int32)).toUInt32 >>> ((8 : Int32).toUInt32 &&& Int32.toUInt32 31)).toInt32)).toUInt32 >>> ((16 : Int32).toUInt32 &&& Int32.toUInt32 31)).toInt32)))]) dJ6_bitCount_0f7a4_47 rfl (by decide) rfl ?_
  refine mm_iload_n C (pc := 48) 0 dJ6_bitCount_0f7a4_48 rfl ?_
  refine mm_bipush C (pc := 49) (v := (63 : Int32)) dJ6_bitCount_0f7a4_49 (by decide) ?_
  refine mm_iand C (pc := 51) dJ6_bitCount_0f7a4_51 ?_
  cases hK
  exact mm_iret C (pc := 52) rfl dJ6_bitCount_0f7a4_52 rfl rfl
theorem wd_1144 : Cond.code yX0_bitsOf cX0_bitsOf 4 (some .int) ∈ lw_good := mm_wd 1144 (by decide +kernel) (by decide +kernel)
theorem tT_X0_bitsOf : mm_T yX0_bitsOf cX0_bitsOf 4 (some .int) 1 := ⟨wd_1144, wd_150, by decide +kernel, by decide +kernel, by decide +kernel, by decide +kernel⟩
theorem wd_1141 : Cond.methodLink RX0 68 yX0_bitsOf ∈ lw_good := mm_wd 1141 (by decide +kernel) (by decide +kernel)
theorem wd_1142 : Cond.instanceMethod yX0_bitsOf ∈ lw_good := mm_wd 1142 (by decide +kernel) (by decide +kernel)
theorem wd_1143 : Cond.selects RX0 yX0_bitsOf yX0_bitsOf ∈ lw_good := mm_wd 1143 (by decide +kernel) (by decide +kernel)
theorem wd_1084 : Cond.code yJ6_bitCount_0f7a4 cJ6_bitCount_0f7a4 1 (some .int) ∈ lw_good := mm_wd 1084 (by decide +kernel) (by decide +kernel)
theorem wd_164 : Cond.initialized RJ6 ∈ lw_good := mm_wd 164 (by decide +kernel) (by decide +kernel)
theorem tT_J6_bitCount_0f7a4 : mm_T yJ6_bitCount_0f7a4 cJ6_bitCount_0f7a4 1 (some .int) 1 := ⟨wd_1084, wd_164, by decide +kernel, by decide +kernel, by decide +kernel, by decide +kernel⟩
theorem wd_1145 : Cond.methodLink RX0 72 yJ6_bitCount_0f7a4 ∈ lw_good := mm_wd 1145 (by decide +kernel) (by decide +kernel)
theorem wd_1083 : Cond.static yJ6_bitCount_0f7a4 ∈ lw_good := mm_wd 1083 (by decide +kernel) (by decide +kernel)
def F_X0_tally (a0 : Option Nat) (a1 : Int32) (h : MH) : Option (Int32 × MH) := mm_b2 (cV h a0 0 (F_X0_bitsOf a0 a1 h)) fun v2 h2 => mm_b2 (F_J6_bitCount_0f7a4 v2 h2) fun v5 h5 => some (v5, h5)
set_option maxRecDepth 20000 in
set_option maxHeartbeats 4000000 in
theorem S_X0_tally {d : Nat} (hd : 3 ≤ d) {a0 : Option Nat} {a1 : Int32} {h : MH} {r : Int32} {hz : MH} (hK : F_X0_tally a0 a1 h = some (r, hz)) : mm_M yX0_tally cX0_tally 2 (some .int) d [va_rf a0, .int a1] h (.inr (some (.int r))) hz := by
  refine mm_ofV (by decide +kernel) (by simp [lg_sl, mm_crf, mm_cti, mm_ctl]) (fun V C => ?_)
  rw [show lv_args 0 [va_rf a0, .int a1] = [(0, va_rf a0), (1, .int a1)] by simp [lv_args, mm_crf, mm_cti, mm_ctl]]
  unfold F_X0_tally at hK
  refine mm_aload_n C (pc := 0) 0 dX0_tally_0 rfl ?_
  refine mm_iload_n C (pc := 1) 1 dX0_tally_1 rfl ?_
  replace hK := mm_b2s hK; obtain ⟨v2, h2, e2, hK⟩ := hK
  obtain ⟨o2, e2⟩ := cV_some e2
  refine mm_callV C (pc := 2) (d1 := 2) (As := [.int a1]) (st := []) (vk := (some (.int v2))) ((S_X0_bitsOf (by omega)) e2) tT_X0_bitsOf o2 (Or.inr ⟨_, rfl, rfl⟩) wd_1141 wd_1142 wd_1143 (by omega) (by decide) rfl (by simp [mm_crf, mm_cti, mm_ctl]) rfl dX0_tally_2 ?_
  show V _ _ (.int v2 :: _) _
  replace hK := mm_b2s hK; obtain ⟨v5, h5, e5, hK⟩ := hK
  refine mm_callS C (pc := 5) (d1 := 1) (As := [.int v2]) (st := []) (vk := (some (.int v5))) ((S_J6_bitCount_0f7a4 (by omega)) e5) tT_J6_bitCount_0f7a4 wd_1145 wd_1083 (by omega) (by decide) rfl (by simp [mm_crf, mm_cti, mm_ctl]) rfl dX0_tally_5 ?_
  show V _ _ (.int v5 :: _) _
  cases hK
  exact mm_iret C (pc := 8) rfl dX0_tally_8 rfl rfl
def F_X0_twosMarried_27 (k4 : Option Nat → Int32 → Int32 → MH → Option (Int32 × MH)) (l0 : Option Nat) (l1 : Int32) (l2 : Int32) (h : MH) : Option (Int32 × MH) := k4 l0 l1 (l2 + (1 : Int32)) h
set_option maxRecDepth 20000 in
set_option maxHeartbeats 4000000 in
theorem w_X0_twosMarried_27 {d : Nat} {V : Nat → List (Nat × Value) → List Value → MH → Prop} {r : Int32} {hz : MH} {k4 : Option Nat → Int32 → Int32 → MH → Option (Int32 × MH)} (hd : 3 ≤ d) (C : mm_C d yX0_twosMarried cX0_twosMarried 3 (some .int) (.inr (some (.int r))) hz V) (q4 : ∀ (x0 : Option Nat) (x1 : Int32) (x2 : Int32) (h : MH), k4 x0 x1 x2 h = some (r, hz) → V 4 [(0, va_rf x0), (1, .int x1), (2, .int x2)] [] h) (l0 : Option Nat) (l1 : Int32) (l2 : Int32) (h : MH) (hK : F_X0_twosMarried_27 k4 l0 l1 l2 h = some (r, hz)) : V 27 [(0, va_rf l0), (1, .int l1), (2, .int l2)] [] h := by
  unfold F_X0_twosMarried_27 at hK
  refine mm_iinc C (pc := 27) (v := (l2 + (1 : Int32))) (lv' := [(2, .int (l2 + (1 : Int32))), (0, va_rf l0), (1, .int l1)]) 2 dX0_twosMarried_27 rfl rfl (by decide) rfl ?_
  refine mm_goto C (pc := 30) (tgt := 4) dX0_twosMarried_30 (by decide) ?_
  refine mm_sub C [1, 2, 0] rfl ?_
  exact q4 _ _ _ _ hK
def F_X0_twosMarried_4 : Nat → Option Nat → Int32 → Int32 → MH → Option (Int32 × MH)
  | 0 => fun _ _ _ _ => none
  | n + 1 => fun l0 l1 l2 h => (gR h l0 0 2).bind fun v6 => (gI h v6 8 0).bind fun v9 => if v9 ≤ l2 then (some (l1, h)) else (mm_b2 (cV h l0 0 (F_X0_spouse l0 l2 h)) fun v17 h17 => if v17 ≤ l2 then (F_X0_twosMarried_27 (F_X0_twosMarried_4 n) l0 l1 l2 h17) else (F_X0_twosMarried_27 (F_X0_twosMarried_4 n) l0 (l1 + (1 : Int32)) l2 h17))
set_option maxRecDepth 20000 in
set_option maxHeartbeats 4000000 in
theorem w_X0_twosMarried_4 {d : Nat} {V : Nat → List (Nat × Value) → List Value → MH → Prop} {r : Int32} {hz : MH} (hd : 3 ≤ d) (C : mm_C d yX0_twosMarried cX0_twosMarried 3 (some .int) (.inr (some (.int r))) hz V) : ∀ (n : Nat) (l0 : Option Nat) (l1 : Int32) (l2 : Int32) (h : MH), F_X0_twosMarried_4 n l0 l1 l2 h = some (r, hz) → V 4 [(0, va_rf l0), (1, .int l1), (2, .int l2)] [] h := by
  intro n
  induction n with
  | zero => intro l0 l1 l2 h hK; cases hK
  | succ n ih =>
    intro l0 l1 l2 h hK
    replace hK : ((gR h l0 0 2).bind fun v6 => (gI h v6 8 0).bind fun v9 => if v9 ≤ l2 then (some (l1, h)) else (mm_b2 (cV h l0 0 (F_X0_spouse l0 l2 h)) fun v17 h17 => if v17 ≤ l2 then (F_X0_twosMarried_27 (F_X0_twosMarried_4 n) l0 l1 l2 h17) else (F_X0_twosMarried_27 (F_X0_twosMarried_4 n) l0 (l1 + (1 : Int32)) l2 h17))) = some (r, hz) := hK
    refine mm_iload_n C (pc := 4) 2 dX0_twosMarried_4 rfl ?_
    refine mm_aload_n C (pc := 5) 0 dX0_twosMarried_5 rfl ?_
    replace hK := mm_bd hK; obtain ⟨v6, e6, hK⟩ := hK
    refine mm_getr C (pc := 6) (k := 2) inGX0 rfl (by decide) wd_818 dX0_twosMarried_6 e6 ?_
    replace hK := mm_bd hK; obtain ⟨v9, e9, hK⟩ := hK
    refine mm_geti C (pc := 9) (k := 0) inGX8 rfl (by decide) wd_775 dX0_twosMarried_9 e9 ?_
    refine mm_icmp_ge C (pc := 12) (tgt := 33) dX0_twosMarried_12 (by decide) (fun hc => ?_) (fun hc => ?_)
    · replace hK := mm_ip hc hK
      refine mm_iload_n C (pc := 33) 1 dX0_twosMarried_33 rfl ?_
      cases hK
      exact mm_iret C (pc := 34) rfl dX0_twosMarried_34 rfl rfl
    · replace hK := mm_in hc hK
      refine mm_aload_n C (pc := 15) 0 dX0_twosMarried_15 rfl ?_
      refine mm_iload_n C (pc := 16) 2 dX0_twosMarried_16 rfl ?_
      replace hK := mm_b2s hK; obtain ⟨v17, h17, e17, hK⟩ := hK
      obtain ⟨o17, e17⟩ := cV_some e17
      refine mm_callV C (pc := 17) (d1 := 2) (As := [.int l2]) (st := []) (vk := (some (.int v17))) ((S_X0_spouse (by omega)) e17) tT_X0_spouse o17 (Or.inr ⟨_, rfl, rfl⟩) wd_1055 wd_1056 wd_1057 (by omega) (by decide) rfl (by simp [mm_crf, mm_cti, mm_ctl]) rfl dX0_twosMarried_17 ?_
      show V _ _ (.int v17 :: _) _
      refine mm_iload_n C (pc := 20) 2 dX0_twosMarried_20 rfl ?_
      refine mm_icmp_le C (pc := 21) (tgt := 27) dX0_twosMarried_21 (by decide) (fun hc => ?_) (fun hc => ?_)
      · replace hK := mm_ip hc hK
        exact w_X0_twosMarried_27 hd C (fun z0 z1 z2 z3 hK => ih z0 z1 z2 z3 hK) _ _ _ _ hK
      · replace hK := mm_in hc hK
        refine mm_iinc C (pc := 24) (v := (l1 + (1 : Int32))) (lv' := [(1, .int (l1 + (1 : Int32))), (0, va_rf l0), (2, .int l2)]) 1 dX0_twosMarried_24 rfl rfl (by decide) (by simp [mm_crf]) ?_
        refine mm_sub C [1, 0, 2] rfl ?_
        exact w_X0_twosMarried_27 hd C (fun z0 z1 z2 z3 hK => ih z0 z1 z2 z3 hK) _ _ _ _ hK
def F_X0_twosMarried (a0 : Option Nat) (h : MH) : Option (Int32 × MH) := F_X0_twosMarried_4 mm_N a0 (0 : Int32) (0 : Int32) h
set_option maxRecDepth 20000 in
set_option maxHeartbeats 4000000 in
theorem S_X0_twosMarried {d : Nat} (hd : 3 ≤ d) {a0 : Option Nat} {h : MH} {r : Int32} {hz : MH} (hK : F_X0_twosMarried a0 h = some (r, hz)) : mm_M yX0_twosMarried cX0_twosMarried 3 (some .int) d [va_rf a0] h (.inr (some (.int r))) hz := by
  refine mm_ofV (by decide +kernel) (by simp [lg_sl, mm_crf, mm_cti, mm_ctl]) (fun V C => ?_)
  rw [show lv_args 0 [va_rf a0] = [(0, va_rf a0)] by simp [lv_args, mm_crf, mm_cti, mm_ctl]]
  unfold F_X0_twosMarried at hK
  refine mm_iconst C (pc := 0) (v := (0 : Int32)) dX0_twosMarried_0 (by decide) ?_
  refine mm_istore_n C (pc := 1) (i := 1) (lv' := [(1, .int (0 : Int32)), (0, va_rf a0)]) dX0_twosMarried_1 rfl (by decide) (by simp [mm_crf]) ?_
  refine mm_iconst C (pc := 2) (v := (0 : Int32)) dX0_twosMarried_2 (by decide) ?_
  refine mm_istore_n C (pc := 3) (i := 2) (lv' := [(2, .int (0 : Int32)), (1, .int (0 : Int32)), (0, va_rf a0)]) dX0_twosMarried_3 rfl (by decide) rfl ?_
  refine mm_sub C [2, 1, 0] rfl ?_
  exact w_X0_twosMarried_4 hd C _ _ _ _ _ hK
theorem wd_1544 : Cond.code yX11_toldTray cX11_toldTray 3 (some (.object "CrossedLines$Tray")) ∈ lw_good := mm_wd 1544 (by decide +kernel) (by decide +kernel)
theorem tT_X11_toldTray : mm_T yX11_toldTray cX11_toldTray 3 (some (.object "CrossedLines$Tray")) 1 := ⟨wd_1544, wd_142, by decide +kernel, by decide +kernel, by decide +kernel, by decide +kernel⟩
theorem wd_1541 : Cond.methodLink RX11 212 yX11_toldTray ∈ lw_good := mm_wd 1541 (by decide +kernel) (by decide +kernel)
theorem wd_1543 : Cond.instanceMethod yX11_toldTray ∈ lw_good := mm_wd 1543 (by decide +kernel) (by decide +kernel)
theorem wd_40 : Cond.selects RX11 yX11_toldTray yX11_toldTray ∈ lw_good := mm_wd 40 (by decide +kernel) (by decide +kernel)
theorem wd_979 : Cond.code yX0_become cX0_become 2 none ∈ lw_good := mm_wd 979 (by decide +kernel) (by decide +kernel)
theorem tT_X0_become : mm_T yX0_become cX0_become 2 none 1 := ⟨wd_979, wd_150, by decide +kernel, by decide +kernel, by decide +kernel, by decide +kernel⟩
theorem wd_976 : Cond.methodLink RX11 216 yX0_become ∈ lw_good := mm_wd 976 (by decide +kernel) (by decide +kernel)
theorem wd_977 : Cond.instanceMethod yX0_become ∈ lw_good := mm_wd 977 (by decide +kernel) (by decide +kernel)
theorem wd_978 : Cond.selects RX0 yX0_become yX0_become ∈ lw_good := mm_wd 978 (by decide +kernel) (by decide +kernel)
theorem wd_1570 : Cond.methodLink RX11 219 yX10_many ∈ lw_good := mm_wd 1570 (by decide +kernel) (by decide +kernel)
theorem wd_1149 : Cond.code yX0_twosMarried cX0_twosMarried 3 (some .int) ∈ lw_good := mm_wd 1149 (by decide +kernel) (by decide +kernel)
theorem tT_X0_twosMarried : mm_T yX0_twosMarried cX0_twosMarried 3 (some .int) 0 := ⟨wd_1149, wd_150, by decide +kernel, by decide +kernel, by decide +kernel, by decide +kernel⟩
theorem wd_1146 : Cond.methodLink RX11 235 yX0_twosMarried ∈ lw_good := mm_wd 1146 (by decide +kernel) (by decide +kernel)
theorem wd_1147 : Cond.instanceMethod yX0_twosMarried ∈ lw_good := mm_wd 1147 (by decide +kernel) (by decide +kernel)
theorem wd_1148 : Cond.selects RX0 yX0_twosMarried yX0_twosMarried ∈ lw_good := mm_wd 1148 (by decide +kernel) (by decide +kernel)
theorem wd_1140 : Cond.code yX0_tally cX0_tally 2 (some .int) ∈ lw_good := mm_wd 1140 (by decide +kernel) (by decide +kernel)
theorem tT_X0_tally : mm_T yX0_tally cX0_tally 2 (some .int) 1 := ⟨wd_1140, wd_150, by decide +kernel, by decide +kernel, by decide +kernel, by decide +kernel⟩
theorem wd_1137 : Cond.methodLink RX11 232 yX0_tally ∈ lw_good := mm_wd 1137 (by decide +kernel) (by decide +kernel)
theorem wd_1138 : Cond.instanceMethod yX0_tally ∈ lw_good := mm_wd 1138 (by decide +kernel) (by decide +kernel)
theorem wd_1139 : Cond.selects RX0 yX0_tally yX0_tally ∈ lw_good := mm_wd 1139 (by decide +kernel) (by decide +kernel)
theorem wd_1578 : Cond.code yX10_at cX10_at 2 (some .long) ∈ lw_good := mm_wd 1578 (by decide +kernel) (by decide +kernel)
theorem tT_X10_at : mm_T yX10_at cX10_at 2 (some .long) 1 := ⟨wd_1578, wd_169, by decide +kernel, by decide +kernel, by decide +kernel, by decide +kernel⟩
theorem wd_1575 : Cond.methodLink RX11 220 yX10_at ∈ lw_good := mm_wd 1575 (by decide +kernel) (by decide +kernel)
theorem wd_1576 : Cond.instanceMethod yX10_at ∈ lw_good := mm_wd 1576 (by decide +kernel) (by decide +kernel)
theorem wd_1577 : Cond.selects RX10 yX10_at yX10_at ∈ lw_good := mm_wd 1577 (by decide +kernel) (by decide +kernel)
theorem wd_1583 : Cond.code yX0_whyNotTold cX0_whyNotTold 4 (some .int) ∈ lw_good := mm_wd 1583 (by decide +kernel) (by decide +kernel)
theorem tT_X0_whyNotTold : mm_T yX0_whyNotTold cX0_whyNotTold 4 (some .int) 1 := ⟨wd_1583, wd_150, by decide +kernel, by decide +kernel, by decide +kernel, by decide +kernel⟩
theorem wd_1580 : Cond.methodLink RX11 224 yX0_whyNotTold ∈ lw_good := mm_wd 1580 (by decide +kernel) (by decide +kernel)
theorem wd_1581 : Cond.instanceMethod yX0_whyNotTold ∈ lw_good := mm_wd 1581 (by decide +kernel) (by decide +kernel)
theorem wd_1582 : Cond.selects RX0 yX0_whyNotTold yX0_whyNotTold ∈ lw_good := mm_wd 1582 (by decide +kernel) (by decide +kernel)
theorem wd_1591 : Cond.code yX0_doTold cX0_doTold 4 none ∈ lw_good := mm_wd 1591 (by decide +kernel) (by decide +kernel)
theorem tT_X0_doTold : mm_T yX0_doTold cX0_doTold 4 none 1 := ⟨wd_1591, wd_150, by decide +kernel, by decide +kernel, by decide +kernel, by decide +kernel⟩
theorem wd_1588 : Cond.methodLink RX11 228 yX0_doTold ∈ lw_good := mm_wd 1588 (by decide +kernel) (by decide +kernel)
theorem wd_1589 : Cond.instanceMethod yX0_doTold ∈ lw_good := mm_wd 1589 (by decide +kernel) (by decide +kernel)
theorem wd_1590 : Cond.selects RX0 yX0_doTold yX0_doTold ∈ lw_good := mm_wd 1590 (by decide +kernel) (by decide +kernel)
def F_X11_judge_130 (s0 : Int32) (h : MH) : Option ((String ⊕ Int32) × MH) := some (.inr s0, h)
set_option maxRecDepth 20000 in
set_option maxHeartbeats 4000000 in
theorem w_X11_judge_130 {d : Nat} {V : Nat → List (Nat × Value) → List Value → MH → Prop} {r : String ⊕ Int32} {hz : MH} (hd : 8 ≤ d) (C : mm_C d yX11_judge cX11_judge 7 (some .int) (mm_oi r) hz V) (s0 : Int32) (h : MH) (hK : F_X11_judge_130 s0 h = some (r, hz)) : V 130 [] [.int s0] h := by
  unfold F_X11_judge_130 at hK
  cases hK
  exact mm_iret C (pc := 130) rfl dX11_judge_130 rfl rfl
def F_X11_judge_92 (l0 : Option Nat) (l2 : Int32) (l4 : Int32) (l5 : Int32) (h : MH) : Option ((String ⊕ Int32) × MH) := if l2 = 0 then (some (.inr l5, h)) else (if l2 = (1 : Int32) then (some (.inr l4, h)) else (if l2 = (2 : Int32) then ((gR h l0 11 7).bind fun v113 => mm_b2 (cV h v113 0 (F_X0_tally v113 (3 : Int32) h)) fun v117 h117 => F_X11_judge_130 v117 h117) else ((gR h l0 11 7).bind fun v124 => mm_b2 (cV h v124 0 (F_X0_twosMarried v124 h)) fun v127 h127 => F_X11_judge_130 v127 h127)))
set_option maxRecDepth 20000 in
set_option maxHeartbeats 4000000 in
theorem w_X11_judge_92 {d : Nat} {V : Nat → List (Nat × Value) → List Value → MH → Prop} {r : String ⊕ Int32} {hz : MH} (hd : 8 ≤ d) (C : mm_C d yX11_judge cX11_judge 7 (some .int) (mm_oi r) hz V) (l0 : Option Nat) (l2 : Int32) (l4 : Int32) (l5 : Int32) (h : MH) (hK : F_X11_judge_92 l0 l2 l4 l5 h = some (r, hz)) : V 92 [(0, va_rf l0), (2, .int l2), (4, .int l4), (5, .int l5)] [] h := by
  unfold F_X11_judge_92 at hK
  refine mm_iload_n C (pc := 92) 1 dX11_judge_92 rfl ?_
  refine mm_if_ne C (pc := 93) (tgt := 99) dX11_judge_93 (by decide) (fun hc => ?_) (fun hc => ?_)
  · replace hK := mm_in hc hK
    refine mm_iload_n C (pc := 99) 1 dX11_judge_99 rfl ?_
    refine mm_iconst C (pc := 100) (v := (1 : Int32)) dX11_judge_100 (by decide) ?_
    refine mm_icmp_ne C (pc := 101) (tgt := 107) dX11_judge_101 (by decide) (fun hc => ?_) (fun hc => ?_)
    · replace hK := mm_in hc hK
      refine mm_iload_n C (pc := 107) 1 dX11_judge_107 rfl ?_
      refine mm_iconst C (pc := 108) (v := (2 : Int32)) dX11_judge_108 (by decide) ?_
      refine mm_icmp_ne C (pc := 109) (tgt := 123) dX11_judge_109 (by decide) (fun hc => ?_) (fun hc => ?_)
      · replace hK := mm_in hc hK
        refine mm_aload_n C (pc := 123) 0 dX11_judge_123 rfl ?_
        replace hK := mm_bd hK; obtain ⟨v124, e124, hK⟩ := hK
        refine mm_getr C (pc := 124) (k := 7) inGX11 rfl (by decide) wd_852 dX11_judge_124 e124 ?_
        replace hK := mm_b2s hK; obtain ⟨v127, h127, e127, hK⟩ := hK
        obtain ⟨o127, e127⟩ := cV_some e127
        refine mm_callV C (pc := 127) (d1 := 3) (As := []) (st := []) (vk := (some (.int v127))) ((S_X0_twosMarried (by omega)) e127) tT_X0_twosMarried o127 (Or.inr ⟨_, rfl, rfl⟩) wd_1146 wd_1147 wd_1148 (by omega) (by decide) rfl (by simp [mm_crf, mm_cti, mm_ctl]) rfl dX11_judge_127 ?_
        show V _ _ (.int v127 :: _) _
        refine mm_sub C [] rfl ?_
        exact w_X11_judge_130 hd C _ _ hK
      · replace hK := mm_ip hc hK
        refine mm_aload_n C (pc := 112) 0 dX11_judge_112 rfl ?_
        replace hK := mm_bd hK; obtain ⟨v113, e113, hK⟩ := hK
        refine mm_getr C (pc := 113) (k := 7) inGX11 rfl (by decide) wd_852 dX11_judge_113 e113 ?_
        refine mm_iconst C (pc := 116) (v := (3 : Int32)) dX11_judge_116 (by decide) ?_
        replace hK := mm_b2s hK; obtain ⟨v117, h117, e117, hK⟩ := hK
        obtain ⟨o117, e117⟩ := cV_some e117
        refine mm_callV C (pc := 117) (d1 := 3) (As := [.int (3 : Int32)]) (st := []) (vk := (some (.int v117))) ((S_X0_tally (by omega)) e117) tT_X0_tally o117 (Or.inr ⟨_, rfl, rfl⟩) wd_1137 wd_1138 wd_1139 (by omega) (by decide) rfl (by simp [mm_crf, mm_cti, mm_ctl]) rfl dX11_judge_117 ?_
        show V _ _ (.int v117 :: _) _
        refine mm_goto C (pc := 120) (tgt := 130) dX11_judge_120 (by decide) ?_
        refine mm_sub C [] rfl ?_
        exact w_X11_judge_130 hd C _ _ hK
    · replace hK := mm_ip hc hK
      refine mm_iload C (pc := 104) 2 dX11_judge_104 rfl ?_
      cases hK
      exact mm_iret C (pc := 106) rfl dX11_judge_106 rfl rfl
  · replace hK := mm_ip hc hK
    refine mm_iload C (pc := 96) 3 dX11_judge_96 rfl ?_
    cases hK
    exact mm_iret C (pc := 98) rfl dX11_judge_98 rfl rfl
def F_X11_judge_86 (k32 : Option Nat → Int32 → Option Nat → Int32 → Int32 → Int32 → MH → Option ((String ⊕ Int32) × MH)) (l0 : Option Nat) (l2 : Int32) (l3 : Option Nat) (l4 : Int32) (l5 : Int32) (l6 : Int32) (h : MH) : Option ((String ⊕ Int32) × MH) := k32 l0 l2 l3 l4 l5 (l6 + (1 : Int32)) h
set_option maxRecDepth 20000 in
set_option maxHeartbeats 4000000 in
theorem w_X11_judge_86 {d : Nat} {V : Nat → List (Nat × Value) → List Value → MH → Prop} {r : String ⊕ Int32} {hz : MH} {k32 : Option Nat → Int32 → Option Nat → Int32 → Int32 → Int32 → MH → Option ((String ⊕ Int32) × MH)} (hd : 8 ≤ d) (C : mm_C d yX11_judge cX11_judge 7 (some .int) (mm_oi r) hz V) (q32 : ∀ (x0 : Option Nat) (x1 : Int32) (x2 : Option Nat) (x3 : Int32) (x4 : Int32) (x5 : Int32) (h : MH), k32 x0 x1 x2 x3 x4 x5 h = some (r, hz) → V 32 [(0, va_rf x0), (2, .int x1), (3, va_rf x2), (4, .int x3), (5, .int x4), (6, .int x5)] [] h) (l0 : Option Nat) (l2 : Int32) (l3 : Option Nat) (l4 : Int32) (l5 : Int32) (l6 : Int32) (h : MH) (hK : F_X11_judge_86 k32 l0 l2 l3 l4 l5 l6 h = some (r, hz)) : V 86 [(0, va_rf l0), (2, .int l2), (3, va_rf l3), (4, .int l4), (5, .int l5), (6, .int l6)] [] h := by
  unfold F_X11_judge_86 at hK
  refine mm_iinc C (pc := 86) (v := (l6 + (1 : Int32))) (lv' := [(6, .int (l6 + (1 : Int32))), (0, va_rf l0), (2, .int l2), (3, va_rf l3), (4, .int l4), (5, .int l5)]) 5 dX11_judge_86 rfl rfl (by decide) rfl ?_
  refine mm_goto C (pc := 89) (tgt := 32) dX11_judge_89 (by decide) ?_
  refine mm_sub C [1, 2, 3, 4, 5, 0] rfl ?_
  exact q32 _ _ _ _ _ _ _ hK
def F_X11_judge_32 : Nat → Option Nat → Int32 → Option Nat → Int32 → Int32 → Int32 → MH → Option ((String ⊕ Int32) × MH)
  | 0 => fun _ _ _ _ _ _ _ => none
  | n + 1 => fun l0 l2 l3 l4 l5 l6 h => mm_b2 (cV h l3 10 (F_X10_many l3 h)) fun v35 h35 => if v35 ≤ l6 then (F_X11_judge_92 l0 l2 l4 l5 h35) else (if l4 = 0 then ((gR h35 l0 11 7).bind fun v47 => mm_b2 (cV h35 l3 10 (F_X10_at l3 l6 h35)) fun v53 h53 => mm_b2 (cV h53 v47 0 (F_X0_whyNotTold v47 v53 h53)) fun v56 h56 => if v56 = 0 then ((gR h56 l0 11 7).bind fun v67 => mm_b2 (cV h56 l3 10 (F_X10_at l3 l6 h56)) fun v73 h73 => (cV h73 v67 0 (F_X0_doTold v67 v73 h73)).bind fun h76 => F_X11_judge_86 (F_X11_judge_32 n) l0 l2 l3 v56 l5 l6 h76) else (F_X11_judge_86 (F_X11_judge_32 n) l0 l2 l3 v56 l6 l6 h56)) else (F_X11_judge_92 l0 l2 l4 l5 h35))
set_option maxRecDepth 20000 in
set_option maxHeartbeats 4000000 in
theorem w_X11_judge_32 {d : Nat} {V : Nat → List (Nat × Value) → List Value → MH → Prop} {r : String ⊕ Int32} {hz : MH} (hd : 8 ≤ d) (C : mm_C d yX11_judge cX11_judge 7 (some .int) (mm_oi r) hz V) : ∀ (n : Nat) (l0 : Option Nat) (l2 : Int32) (l3 : Option Nat) (l4 : Int32) (l5 : Int32) (l6 : Int32) (h : MH), F_X11_judge_32 n l0 l2 l3 l4 l5 l6 h = some (r, hz) → V 32 [(0, va_rf l0), (2, .int l2), (3, va_rf l3), (4, .int l4), (5, .int l5), (6, .int l6)] [] h := by
  intro n
  induction n with
  | zero => intro l0 l2 l3 l4 l5 l6 h hK; cases hK
  | succ n ih =>
    intro l0 l2 l3 l4 l5 l6 h hK
    replace hK : (mm_b2 (cV h l3 10 (F_X10_many l3 h)) fun v35 h35 => if v35 ≤ l6 then (F_X11_judge_92 l0 l2 l4 l5 h35) else (if l4 = 0 then ((gR h35 l0 11 7).bind fun v47 => mm_b2 (cV h35 l3 10 (F_X10_at l3 l6 h35)) fun v53 h53 => mm_b2 (cV h53 v47 0 (F_X0_whyNotTold v47 v53 h53)) fun v56 h56 => if v56 = 0 then ((gR h56 l0 11 7).bind fun v67 => mm_b2 (cV h56 l3 10 (F_X10_at l3 l6 h56)) fun v73 h73 => (cV h73 v67 0 (F_X0_doTold v67 v73 h73)).bind fun h76 => F_X11_judge_86 (F_X11_judge_32 n) l0 l2 l3 v56 l5 l6 h76) else (F_X11_judge_86 (F_X11_judge_32 n) l0 l2 l3 v56 l6 l6 h56)) else (F_X11_judge_92 l0 l2 l4 l5 h35))) = some (r, hz) := hK
    refine mm_iload C (pc := 32) 5 dX11_judge_32 rfl ?_
    refine mm_aload_n C (pc := 34) 2 dX11_judge_34 rfl ?_
    replace hK := mm_b2s hK; obtain ⟨v35, h35, e35, hK⟩ := hK
    obtain ⟨o35, e35⟩ := cV_some e35
    refine mm_callV C (pc := 35) (d1 := 1) (As := []) (st := [.int l6]) (vk := (some (.int v35))) ((S_X10_many (by omega)) e35) tT_X10_many o35 (Or.inr ⟨_, rfl, rfl⟩) wd_1570 wd_1571 wd_1572 (by omega) (by decide) rfl (by simp [mm_crf, mm_cti, mm_ctl]) rfl dX11_judge_35 ?_
    show V _ _ (.int v35 :: _) _
    refine mm_icmp_ge C (pc := 38) (tgt := 92) dX11_judge_38 (by decide) (fun hc => ?_) (fun hc => ?_)
    · replace hK := mm_ip hc hK
      refine mm_sub C [0, 1, 3, 4] rfl ?_
      exact w_X11_judge_92 hd C _ _ _ _ _ hK
    · replace hK := mm_in hc hK
      refine mm_iload C (pc := 41) 3 dX11_judge_41 rfl ?_
      refine mm_if_ne C (pc := 43) (tgt := 92) dX11_judge_43 (by decide) (fun hc => ?_) (fun hc => ?_)
      · replace hK := mm_in hc hK
        refine mm_sub C [0, 1, 3, 4] rfl ?_
        exact w_X11_judge_92 hd C _ _ _ _ _ hK
      · replace hK := mm_ip hc hK
        refine mm_aload_n C (pc := 46) 0 dX11_judge_46 rfl ?_
        replace hK := mm_bd hK; obtain ⟨v47, e47, hK⟩ := hK
        refine mm_getr C (pc := 47) (k := 7) inGX11 rfl (by decide) wd_852 dX11_judge_47 e47 ?_
        refine mm_aload_n C (pc := 50) 2 dX11_judge_50 rfl ?_
        refine mm_iload C (pc := 51) 5 dX11_judge_51 rfl ?_
        replace hK := mm_b2s hK; obtain ⟨v53, h53, e53, hK⟩ := hK
        obtain ⟨o53, e53⟩ := cV_some e53
        refine mm_callV C (pc := 53) (d1 := 2) (As := [.int l6]) (st := [va_rf v47]) (vk := (some (.long v53))) ((S_X10_at (by omega)) e53) tT_X10_at o53 (Or.inr ⟨_, rfl, rfl⟩) wd_1575 wd_1576 wd_1577 (by omega) (by decide) rfl (by simp [mm_crf, mm_cti, mm_ctl]) rfl dX11_judge_53 ?_
        show V _ _ (.long v53 :: _) _
        replace hK := mm_b2s hK; obtain ⟨v56, h56, e56, hK⟩ := hK
        obtain ⟨o56, e56⟩ := cV_some e56
        refine mm_callV C (pc := 56) (d1 := 4) (As := [.long v53]) (st := []) (vk := (some (.int v56))) ((S_X0_whyNotTold (by omega)) e56) tT_X0_whyNotTold o56 (Or.inr ⟨_, rfl, rfl⟩) wd_1580 wd_1581 wd_1582 (by omega) (by decide) rfl (by simp [mm_crf, mm_cti, mm_ctl]) rfl dX11_judge_56 ?_
        show V _ _ (.int v56 :: _) _
        refine mm_istore C (pc := 59) (i := 4) (lv' := [(4, .int v56), (0, va_rf l0), (2, .int l2), (3, va_rf l3), (5, .int l5), (6, .int l6)]) dX11_judge_59 (by decide) (by simp [mm_crf]) ?_
        refine mm_iload C (pc := 61) 0 dX11_judge_61 rfl ?_
        refine mm_if_ne C (pc := 63) (tgt := 82) dX11_judge_63 (by decide) (fun hc => ?_) (fun hc => ?_)
        · replace hK := mm_in hc hK
          refine mm_iload C (pc := 82) 5 dX11_judge_82 rfl ?_
          refine mm_istore C (pc := 84) (i := 5) (lv' := [(5, .int l6), (4, .int v56), (0, va_rf l0), (2, .int l2), (3, va_rf l3), (6, .int l6)]) dX11_judge_84 (by decide) rfl ?_
          refine mm_sub C [2, 3, 4, 1, 0, 5] rfl ?_
          exact w_X11_judge_86 hd C (fun z0 z1 z2 z3 z4 z5 z6 hK => ih z0 z1 z2 z3 z4 z5 z6 hK) _ _ _ _ _ _ _ hK
        · replace hK := mm_ip hc hK
          refine mm_aload_n C (pc := 66) 1 dX11_judge_66 rfl ?_
          replace hK := mm_bd hK; obtain ⟨v67, e67, hK⟩ := hK
          refine mm_getr C (pc := 67) (k := 7) inGX11 rfl (by decide) wd_852 dX11_judge_67 e67 ?_
          refine mm_aload_n C (pc := 70) 3 dX11_judge_70 rfl ?_
          refine mm_iload C (pc := 71) 5 dX11_judge_71 rfl ?_
          replace hK := mm_b2s hK; obtain ⟨v73, h73, e73, hK⟩ := hK
          obtain ⟨o73, e73⟩ := cV_some e73
          refine mm_callV C (pc := 73) (d1 := 2) (As := [.int l6]) (st := [va_rf v67]) (vk := (some (.long v73))) ((S_X10_at (by omega)) e73) tT_X10_at o73 (Or.inr ⟨_, rfl, rfl⟩) wd_1575 wd_1576 wd_1577 (by omega) (by decide) rfl (by simp [mm_crf, mm_cti, mm_ctl]) rfl dX11_judge_73 ?_
          show V _ _ (.long v73 :: _) _
          replace hK := mm_bd hK; obtain ⟨h76, e76, hK⟩ := hK
          obtain ⟨o76, e76⟩ := cV_some e76
          refine mm_callV C (pc := 76) (d1 := 6) (As := [.long v73]) (st := []) (vk := none) ((S_X0_doTold (by omega)) e76) tT_X0_doTold o76 (Or.inr ⟨_, rfl, rfl⟩) wd_1588 wd_1589 wd_1590 (by omega) (by decide) rfl (by simp [mm_crf, mm_cti, mm_ctl]) rfl dX11_judge_76 ?_
          show V _ _ [] _
          refine mm_goto C (pc := 79) (tgt := 86) dX11_judge_79 (by decide) ?_
          refine mm_sub C [1, 2, 3, 0, 4, 5] rfl ?_
          exact w_X11_judge_86 hd C (fun z0 z1 z2 z3 z4 z5 z6 hK => ih z0 z1 z2 z3 z4 z5 z6 hK) _ _ _ _ _ _ _ hK
def F_X11_judge (a0 : Option Nat) (a1 : Int32) (a2 : Int32) (h : MH) : Option ((String ⊕ Int32) × MH) := mm_b3 (cV h a0 11 (F_X11_toldTray a0 a1 h)) fun v2 h2 => mm_b3 (F_X11_needWithin a2 (0 : Int32) (3 : Int32) h2) fun _ h9 => (gR h9 a0 11 7).bind fun v13 => (gR h9 a0 11 5).bind fun v17 => (cV h9 v13 0 (F_X0_become v13 v17 h9)).bind fun h20 => F_X11_judge_32 mm_N a0 a2 v2 (0 : Int32) ((-1) : Int32) (0 : Int32) h20
set_option maxRecDepth 20000 in
set_option maxHeartbeats 4000000 in
theorem S_X11_judge {d : Nat} (hd : 8 ≤ d) {a0 : Option Nat} {a1 : Int32} {a2 : Int32} {h : MH} {r : String ⊕ Int32} {hz : MH} (hK : F_X11_judge a0 a1 a2 h = some (r, hz)) : mm_M yX11_judge cX11_judge 7 (some .int) d [va_rf a0, .int a1, .int a2] h (mm_oi r) hz := by
  refine mm_ofV (by decide +kernel) (by simp [lg_sl, mm_crf, mm_cti, mm_ctl]) (fun V C => ?_)
  rw [show lv_args 0 [va_rf a0, .int a1, .int a2] = [(0, va_rf a0), (1, .int a1), (2, .int a2)] by simp [lv_args, mm_crf, mm_cti, mm_ctl]]
  unfold F_X11_judge at hK
  refine mm_aload_n C (pc := 0) 0 dX11_judge_0 rfl ?_
  refine mm_iload_n C (pc := 1) 1 dX11_judge_1 rfl ?_
  replace hK := mm_b3s hK; rcases hK with ⟨E2, e2, rfl⟩ | ⟨v2, h2, e2, hK⟩
  · obtain ⟨o2, e2⟩ := cV_some e2
    exact mm_callVX C (pc := 2) (d1 := 7) (As := [.int a1]) (st := []) ((S_X11_toldTray (by omega)) e2) tT_X11_toldTray o2 (Or.inr ⟨_, rfl, rfl⟩) wd_1541 wd_1543 wd_40 (by omega) (by decide) rfl (by simp [mm_crf, mm_cti, mm_ctl]) rfl dX11_judge_2 rfl rfl
  obtain ⟨o2, e2⟩ := cV_some e2
  refine mm_callV C (pc := 2) (d1 := 7) (As := [.int a1]) (st := []) (vk := (some (va_rf v2))) ((S_X11_toldTray (by omega)) e2) tT_X11_toldTray o2 (Or.inr ⟨_, rfl, rfl⟩) wd_1541 wd_1543 wd_40 (by omega) (by decide) rfl (by simp [mm_crf, mm_cti, mm_ctl]) rfl dX11_judge_2 ?_
  show V _ _ (va_rf v2 :: _) _
  refine mm_astore_n C (pc := 5) (i := 3) (lv' := [(3, va_rf v2), (0, va_rf a0), (1, .int a1), (2, .int a2)]) dX11_judge_5 rfl (by decide) rfl ?_
  refine mm_iload_n C (pc := 6) 3 dX11_judge_6 rfl ?_
  refine mm_iconst C (pc := 7) (v := (0 : Int32)) dX11_judge_7 (by decide) ?_
  refine mm_iconst C (pc := 8) (v := (3 : Int32)) dX11_judge_8 (by decide) ?_
  replace hK := mm_b3s hK; rcases hK with ⟨E9, e9, rfl⟩ | ⟨v9, h9, e9, hK⟩
  · skip
    exact mm_callSX C (pc := 9) (d1 := 6) (As := [.int a2, .int (0 : Int32), .int (3 : Int32)]) (st := []) ((S_X11_needWithin (by omega)) e9) tT_X11_needWithin wd_1163 wd_1164 (by omega) (by decide) rfl (by simp [mm_crf, mm_cti, mm_ctl]) rfl dX11_judge_9 rfl rfl
  refine mm_callS C (pc := 9) (d1 := 6) (As := [.int a2, .int (0 : Int32), .int (3 : Int32)]) (st := []) (vk := none) ((S_X11_needWithin (by omega)) e9) tT_X11_needWithin wd_1163 wd_1164 (by omega) (by decide) rfl (by simp [mm_crf, mm_cti, mm_ctl]) rfl dX11_judge_9 ?_
  show V _ _ [] _
  refine mm_aload_n C (pc := 12) 1 dX11_judge_12 rfl ?_
  replace hK := mm_bd hK; obtain ⟨v13, e13, hK⟩ := hK
  refine mm_getr C (pc := 13) (k := 7) inGX11 rfl (by decide) wd_852 dX11_judge_13 e13 ?_
  refine mm_aload_n C (pc := 16) 1 dX11_judge_16 rfl ?_
  replace hK := mm_bd hK; obtain ⟨v17, e17, hK⟩ := hK
  refine mm_getr C (pc := 17) (k := 5) inGX11 rfl (by decide) wd_850 dX11_judge_17 e17 ?_
  replace hK := mm_bd hK; obtain ⟨h20, e20, hK⟩ := hK
  obtain ⟨o20, e20⟩ := cV_some e20
  refine mm_callV C (pc := 20) (d1 := 1) (As := [va_rf v17]) (st := []) (vk := none) ((S_X0_become (by omega)) e20) tT_X0_become o20 (Or.inr ⟨_, rfl, rfl⟩) wd_976 wd_977 wd_978 (by omega) (by decide) rfl (by simp [mm_crf, mm_cti, mm_ctl]) rfl dX11_judge_20 ?_
  show V _ _ [] _
  refine mm_iconst C (pc := 23) (v := (0 : Int32)) dX11_judge_23 (by decide) ?_
  refine mm_istore C (pc := 24) (i := 4) (lv' := [(4, .int (0 : Int32)), (3, va_rf v2), (0, va_rf a0), (1, .int a1), (2, .int a2)]) dX11_judge_24 (by decide) (by simp [mm_crf]) ?_
  refine mm_iconst C (pc := 26) (v := ((-1) : Int32)) dX11_judge_26 (by decide) ?_
  refine mm_istore C (pc := 27) (i := 5) (lv' := [(5, .int ((-1) : Int32)), (4, .int (0 : Int32)), (3, va_rf v2), (0, va_rf a0), (1, .int a1), (2, .int a2)]) dX11_judge_27 (by decide) rfl ?_
  refine mm_iconst C (pc := 29) (v := (0 : Int32)) dX11_judge_29 (by decide) ?_
  refine mm_istore C (pc := 30) (i := 6) (lv' := [(6, .int (0 : Int32)), (5, .int ((-1) : Int32)), (4, .int (0 : Int32)), (3, va_rf v2), (0, va_rf a0), (1, .int a1), (2, .int a2)]) dX11_judge_30 (by decide) rfl ?_
  refine mm_sub C [4, 6, 3, 2, 1, 0] rfl ?_
  exact w_X11_judge_32 hd C _ _ _ _ _ _ _ _ hK
def F_X11_tryTold (a0 : Option Nat) (a1 : Int64) (h : MH) : Option (Int32 × MH) := (gR h a0 11 5).bind fun v1 => mm_b2 (cV h v1 0 (F_X0_whyNotTold v1 a1 h)) fun v5 h5 => if v5 = 0 then ((gR h5 a0 11 6).bind fun v14 => (gR h5 a0 11 5).bind fun v18 => (cV h5 v14 3 (F_X3_keep v14 v18 h5)).bind fun h21 => (gR h21 a0 11 5).bind fun v25 => (cV h21 v25 0 (F_X0_doTold v25 a1 h21)).bind fun h29 => rZ (1 : Int32) h29) else (rZ (0 : Int32) h5)
set_option maxRecDepth 20000 in
set_option maxHeartbeats 4000000 in
theorem S_X11_tryTold {d : Nat} (hd : 7 ≤ d) {a0 : Option Nat} {a1 : Int64} {h : MH} {r : Int32} {hz : MH} (hK : F_X11_tryTold a0 a1 h = some (r, hz)) : mm_M yX11_tryTold cX11_tryTold 3 (some .boolean) d [va_rf a0, .long a1] h (.inr (some (.int r))) hz := by
  refine mm_ofV (by decide +kernel) (by simp [lg_sl, mm_crf, mm_cti, mm_ctl]) (fun V C => ?_)
  rw [show lv_args 0 [va_rf a0, .long a1] = [(0, va_rf a0), (1, .long a1)] by simp [lv_args, mm_crf, mm_cti, mm_ctl]]
  unfold F_X11_tryTold at hK
  refine mm_aload_n C (pc := 0) 0 dX11_tryTold_0 rfl ?_
  replace hK := mm_bd hK; obtain ⟨v1, e1, hK⟩ := hK
  refine mm_getr C (pc := 1) (k := 5) inGX11 rfl (by decide) wd_850 dX11_tryTold_1 e1 ?_
  refine mm_lload_n C (pc := 4) 1 dX11_tryTold_4 rfl ?_
  replace hK := mm_b2s hK; obtain ⟨v5, h5, e5, hK⟩ := hK
  obtain ⟨o5, e5⟩ := cV_some e5
  refine mm_callV C (pc := 5) (d1 := 4) (As := [.long a1]) (st := []) (vk := (some (.int v5))) ((S_X0_whyNotTold (by omega)) e5) tT_X0_whyNotTold o5 (Or.inr ⟨_, rfl, rfl⟩) wd_1580 wd_1581 wd_1582 (by omega) (by decide) rfl (by simp [mm_crf, mm_cti, mm_ctl]) rfl dX11_tryTold_5 ?_
  show V _ _ (.int v5 :: _) _
  refine mm_if_eq C (pc := 8) (tgt := 13) dX11_tryTold_8 (by decide) (fun hc => ?_) (fun hc => ?_)
  · replace hK := mm_ip hc hK
    refine mm_aload_n C (pc := 13) 0 dX11_tryTold_13 rfl ?_
    replace hK := mm_bd hK; obtain ⟨v14, e14, hK⟩ := hK
    refine mm_getr C (pc := 14) (k := 6) inGX11 rfl (by decide) wd_851 dX11_tryTold_14 e14 ?_
    refine mm_aload_n C (pc := 17) 0 dX11_tryTold_17 rfl ?_
    replace hK := mm_bd hK; obtain ⟨v18, e18, hK⟩ := hK
    refine mm_getr C (pc := 18) (k := 5) inGX11 rfl (by decide) wd_850 dX11_tryTold_18 e18 ?_
    replace hK := mm_bd hK; obtain ⟨h21, e21, hK⟩ := hK
    obtain ⟨o21, e21⟩ := cV_some e21
    refine mm_callV C (pc := 21) (d1 := 2) (As := [va_rf v18]) (st := []) (vk := none) ((S_X3_keep (by omega)) e21) tT_X3_keep o21 (Or.inr ⟨_, rfl, rfl⟩) wd_922 wd_923 wd_924 (by omega) (by decide) rfl (by simp [mm_crf, mm_cti, mm_ctl]) rfl dX11_tryTold_21 ?_
    show V _ _ [] _
    refine mm_aload_n C (pc := 24) 0 dX11_tryTold_24 rfl ?_
    replace hK := mm_bd hK; obtain ⟨v25, e25, hK⟩ := hK
    refine mm_getr C (pc := 25) (k := 5) inGX11 rfl (by decide) wd_850 dX11_tryTold_25 e25 ?_
    refine mm_lload_n C (pc := 28) 1 dX11_tryTold_28 rfl ?_
    replace hK := mm_bd hK; obtain ⟨h29, e29, hK⟩ := hK
    obtain ⟨o29, e29⟩ := cV_some e29
    refine mm_callV C (pc := 29) (d1 := 6) (As := [.long a1]) (st := []) (vk := none) ((S_X0_doTold (by omega)) e29) tT_X0_doTold o29 (Or.inr ⟨_, rfl, rfl⟩) wd_1588 wd_1589 wd_1590 (by omega) (by decide) rfl (by simp [mm_crf, mm_cti, mm_ctl]) rfl dX11_tryTold_29 ?_
    show V _ _ [] _
    refine mm_iconst C (pc := 32) (v := (1 : Int32)) dX11_tryTold_32 (by decide) ?_
    replace hK := rZ_some hK; obtain ⟨hv33, hK⟩ := hK
    cases hK
    exact mm_zret C (pc := 33) rfl (mm_nrZ hv33) dX11_tryTold_33 rfl rfl
  · replace hK := mm_in hc hK
    refine mm_iconst C (pc := 11) (v := (0 : Int32)) dX11_tryTold_11 (by decide) ?_
    replace hK := rZ_some hK; obtain ⟨hv12, hK⟩ := hK
    cases hK
    exact mm_zret C (pc := 12) rfl (mm_nrZ hv12) dX11_tryTold_12 rfl rfl
theorem wd_1606 : Cond.code yX11_tryTold cX11_tryTold 3 (some .boolean) ∈ lw_good := mm_wd 1606 (by decide +kernel) (by decide +kernel)
theorem tT_X11_tryTold : mm_T yX11_tryTold cX11_tryTold 3 (some .boolean) 1 := ⟨wd_1606, wd_142, by decide +kernel, by decide +kernel, by decide +kernel, by decide +kernel⟩
theorem wd_1603 : Cond.methodLink RX11 238 yX11_tryTold ∈ lw_good := mm_wd 1603 (by decide +kernel) (by decide +kernel)
theorem wd_1605 : Cond.instanceMethod yX11_tryTold ∈ lw_good := mm_wd 1605 (by decide +kernel) (by decide +kernel)
theorem wd_42 : Cond.selects RX11 yX11_tryTold yX11_tryTold ∈ lw_good := mm_wd 42 (by decide +kernel) (by decide +kernel)
def F_X11_perform_8 : Nat → Option Nat → Option Nat → Int32 → MH → Option ((String ⊕ Int32) × MH)
  | 0 => fun _ _ _ _ => none
  | n + 1 => fun l0 l2 l3 h => mm_b2 (cV h l2 10 (F_X10_many l2 h)) fun v10 h10 => if v10 ≤ l3 then (mm_b2 (cV h10 l2 10 (F_X10_many l2 h10)) fun v37 h37 => some (.inr v37, h37)) else (mm_b2 (cV h10 l2 10 (F_X10_at l2 l3 h10)) fun v19 h19 => mm_b2 (cV h19 l0 11 (F_X11_tryTold l0 v19 h19)) fun v22 h22 => if v22 = 0 then (some (.inr l3, h22)) else (F_X11_perform_8 n l0 l2 (l3 + (1 : Int32)) h22))
set_option maxRecDepth 20000 in
set_option maxHeartbeats 4000000 in
theorem w_X11_perform_8 {d : Nat} {V : Nat → List (Nat × Value) → List Value → MH → Prop} {r : String ⊕ Int32} {hz : MH} (hd : 8 ≤ d) (C : mm_C d yX11_perform cX11_perform 4 (some .int) (mm_oi r) hz V) : ∀ (n : Nat) (l0 : Option Nat) (l2 : Option Nat) (l3 : Int32) (h : MH), F_X11_perform_8 n l0 l2 l3 h = some (r, hz) → V 8 [(0, va_rf l0), (2, va_rf l2), (3, .int l3)] [] h := by
  intro n
  induction n with
  | zero => intro l0 l2 l3 h hK; cases hK
  | succ n ih =>
    intro l0 l2 l3 h hK
    replace hK : (mm_b2 (cV h l2 10 (F_X10_many l2 h)) fun v10 h10 => if v10 ≤ l3 then (mm_b2 (cV h10 l2 10 (F_X10_many l2 h10)) fun v37 h37 => some (.inr v37, h37)) else (mm_b2 (cV h10 l2 10 (F_X10_at l2 l3 h10)) fun v19 h19 => mm_b2 (cV h19 l0 11 (F_X11_tryTold l0 v19 h19)) fun v22 h22 => if v22 = 0 then (some (.inr l3, h22)) else (F_X11_perform_8 n l0 l2 (l3 + (1 : Int32)) h22))) = some (r, hz) := hK
    refine mm_iload_n C (pc := 8) 2 dX11_perform_8 rfl ?_
    refine mm_aload_n C (pc := 9) 1 dX11_perform_9 rfl ?_
    replace hK := mm_b2s hK; obtain ⟨v10, h10, e10, hK⟩ := hK
    obtain ⟨o10, e10⟩ := cV_some e10
    refine mm_callV C (pc := 10) (d1 := 1) (As := []) (st := [.int l3]) (vk := (some (.int v10))) ((S_X10_many (by omega)) e10) tT_X10_many o10 (Or.inr ⟨_, rfl, rfl⟩) wd_1570 wd_1571 wd_1572 (by omega) (by decide) rfl (by simp [mm_crf, mm_cti, mm_ctl]) rfl dX11_perform_10 ?_
    show V _ _ (.int v10 :: _) _
    refine mm_icmp_ge C (pc := 13) (tgt := 36) dX11_perform_13 (by decide) (fun hc => ?_) (fun hc => ?_)
    · replace hK := mm_ip hc hK
      refine mm_aload_n C (pc := 36) 1 dX11_perform_36 rfl ?_
      replace hK := mm_b2s hK; obtain ⟨v37, h37, e37, hK⟩ := hK
      obtain ⟨o37, e37⟩ := cV_some e37
      refine mm_callV C (pc := 37) (d1 := 1) (As := []) (st := []) (vk := (some (.int v37))) ((S_X10_many (by omega)) e37) tT_X10_many o37 (Or.inr ⟨_, rfl, rfl⟩) wd_1570 wd_1571 wd_1572 (by omega) (by decide) rfl (by simp [mm_crf, mm_cti, mm_ctl]) rfl dX11_perform_37 ?_
      show V _ _ (.int v37 :: _) _
      cases hK
      exact mm_iret C (pc := 40) rfl dX11_perform_40 rfl rfl
    · replace hK := mm_in hc hK
      refine mm_aload_n C (pc := 16) 0 dX11_perform_16 rfl ?_
      refine mm_aload_n C (pc := 17) 1 dX11_perform_17 rfl ?_
      refine mm_iload_n C (pc := 18) 2 dX11_perform_18 rfl ?_
      replace hK := mm_b2s hK; obtain ⟨v19, h19, e19, hK⟩ := hK
      obtain ⟨o19, e19⟩ := cV_some e19
      refine mm_callV C (pc := 19) (d1 := 2) (As := [.int l3]) (st := [va_rf l0]) (vk := (some (.long v19))) ((S_X10_at (by omega)) e19) tT_X10_at o19 (Or.inr ⟨_, rfl, rfl⟩) wd_1575 wd_1576 wd_1577 (by omega) (by decide) rfl (by simp [mm_crf, mm_cti, mm_ctl]) rfl dX11_perform_19 ?_
      show V _ _ (.long v19 :: _) _
      replace hK := mm_b2s hK; obtain ⟨v22, h22, e22, hK⟩ := hK
      obtain ⟨o22, e22⟩ := cV_some e22
      refine mm_callV C (pc := 22) (d1 := 7) (As := [.long v19]) (st := []) (vk := (some (.int v22))) ((S_X11_tryTold (by omega)) e22) tT_X11_tryTold o22 (Or.inr ⟨_, rfl, rfl⟩) wd_1603 wd_1605 wd_42 (by omega) (by decide) rfl (by simp [mm_crf, mm_cti, mm_ctl]) rfl dX11_perform_22 ?_
      show V _ _ (.int v22 :: _) _
      refine mm_if_ne C (pc := 25) (tgt := 30) dX11_perform_25 (by decide) (fun hc => ?_) (fun hc => ?_)
      · replace hK := mm_in hc hK
        refine mm_iinc C (pc := 30) (v := (l3 + (1 : Int32))) (lv' := [(3, .int (l3 + (1 : Int32))), (0, va_rf l0), (2, va_rf l2)]) 2 dX11_perform_30 rfl rfl (by decide) (by simp [mm_crf]) ?_
        refine mm_goto C (pc := 33) (tgt := 8) dX11_perform_33 (by decide) ?_
        refine mm_sub C [1, 2, 0] rfl ?_
        exact ih _ _ _ _ hK
      · replace hK := mm_ip hc hK
        refine mm_iload_n C (pc := 28) 2 dX11_perform_28 rfl ?_
        cases hK
        exact mm_iret C (pc := 29) rfl dX11_perform_29 rfl rfl
def F_X11_perform (a0 : Option Nat) (a1 : Int32) (h : MH) : Option ((String ⊕ Int32) × MH) := mm_b3 (cV h a0 11 (F_X11_toldTray a0 a1 h)) fun v2 h2 => F_X11_perform_8 mm_N a0 v2 (0 : Int32) h2
set_option maxRecDepth 20000 in
set_option maxHeartbeats 4000000 in
theorem S_X11_perform {d : Nat} (hd : 8 ≤ d) {a0 : Option Nat} {a1 : Int32} {h : MH} {r : String ⊕ Int32} {hz : MH} (hK : F_X11_perform a0 a1 h = some (r, hz)) : mm_M yX11_perform cX11_perform 4 (some .int) d [va_rf a0, .int a1] h (mm_oi r) hz := by
  refine mm_ofV (by decide +kernel) (by simp [lg_sl, mm_crf, mm_cti, mm_ctl]) (fun V C => ?_)
  rw [show lv_args 0 [va_rf a0, .int a1] = [(0, va_rf a0), (1, .int a1)] by simp [lv_args, mm_crf, mm_cti, mm_ctl]]
  unfold F_X11_perform at hK
  refine mm_aload_n C (pc := 0) 0 dX11_perform_0 rfl ?_
  refine mm_iload_n C (pc := 1) 1 dX11_perform_1 rfl ?_
  replace hK := mm_b3s hK; rcases hK with ⟨E2, e2, rfl⟩ | ⟨v2, h2, e2, hK⟩
  · obtain ⟨o2, e2⟩ := cV_some e2
    exact mm_callVX C (pc := 2) (d1 := 7) (As := [.int a1]) (st := []) ((S_X11_toldTray (by omega)) e2) tT_X11_toldTray o2 (Or.inr ⟨_, rfl, rfl⟩) wd_1541 wd_1543 wd_40 (by omega) (by decide) rfl (by simp [mm_crf, mm_cti, mm_ctl]) rfl dX11_perform_2 rfl rfl
  obtain ⟨o2, e2⟩ := cV_some e2
  refine mm_callV C (pc := 2) (d1 := 7) (As := [.int a1]) (st := []) (vk := (some (va_rf v2))) ((S_X11_toldTray (by omega)) e2) tT_X11_toldTray o2 (Or.inr ⟨_, rfl, rfl⟩) wd_1541 wd_1543 wd_40 (by omega) (by decide) rfl (by simp [mm_crf, mm_cti, mm_ctl]) rfl dX11_perform_2 ?_
  show V _ _ (va_rf v2 :: _) _
  refine mm_astore_n C (pc := 5) (i := 2) (lv' := [(2, va_rf v2), (0, va_rf a0), (1, .int a1)]) dX11_perform_5 rfl (by decide) rfl ?_
  refine mm_iconst C (pc := 6) (v := (0 : Int32)) dX11_perform_6 (by decide) ?_
  refine mm_istore_n C (pc := 7) (i := 3) (lv' := [(3, .int (0 : Int32)), (2, va_rf v2), (0, va_rf a0), (1, .int a1)]) dX11_perform_7 rfl (by decide) (by simp [mm_crf]) ?_
  refine mm_sub C [2, 1, 0] rfl ?_
  exact w_X11_perform_8 hd C _ _ _ _ _ hK
theorem wd_1617 : Cond.constant RX11 251 (1103515245 : Int32) ∈ lw_good := mm_wd 1617 (by decide +kernel) (by decide +kernel)
def F_X11_drawn (a0 : Int32) (h : MH) : Option (Int32 × MH) := some ((((1103515245 : Int32) * a0) + (12345 : Int32)), h)
set_option maxRecDepth 20000 in
set_option maxHeartbeats 4000000 in
theorem S_X11_drawn {d : Nat} (hd : 1 ≤ d) {a0 : Int32} {h : MH} {r : Int32} {hz : MH} (hK : F_X11_drawn a0 h = some (r, hz)) : mm_M yX11_drawn cX11_drawn 1 (some .int) d [.int a0] h (.inr (some (.int r))) hz := by
  refine mm_ofV (by decide +kernel) (by simp [lg_sl, mm_crf, mm_cti, mm_ctl]) (fun V C => ?_)
  rw [show lv_args 0 [.int a0] = [(0, .int a0)] by simp [lv_args, mm_crf, mm_cti, mm_ctl]]
  unfold F_X11_drawn at hK
  refine mm_ldc C (pc := 0) (v := (1103515245 : Int32)) dX11_drawn_0 wd_1617 ?_
  refine mm_iload_n C (pc := 2) 0 dX11_drawn_2 rfl ?_
  refine mm_imul C (pc := 3) dX11_drawn_3 ?_
  refine mm_sipush C (pc := 4) (v := (12345 : Int32)) dX11_drawn_4 (by decide) ?_
  refine mm_iadd C (pc := 7) dX11_drawn_7 ?_
  cases hK
  exact mm_iret C (pc := 8) rfl dX11_drawn_8 rfl rfl
def F_X11_among_14 (s0 : Int32) (h : MH) : Option (Int32 × MH) := some (s0, h)
set_option maxRecDepth 20000 in
set_option maxHeartbeats 4000000 in
theorem w_X11_among_14 {d : Nat} {V : Nat → List (Nat × Value) → List Value → MH → Prop} {r : Int32} {hz : MH} (hd : 1 ≤ d) (C : mm_C d yX11_among cX11_among 2 (some .int) (.inr (some (.int r))) hz V) (s0 : Int32) (h : MH) (hK : F_X11_among_14 s0 h = some (r, hz)) : V 14 [] [.int s0] h := by
  unfold F_X11_among_14 at hK
  cases hK
  exact mm_iret C (pc := 14) rfl dX11_among_14 rfl rfl
def F_X11_among (a0 : Int32) (a1 : Int32) (h : MH) : Option (Int32 × MH) := if a1 ≤ 0 then (F_X11_among_14 (0 : Int32) h) else (if a1 = 0 then none else F_X11_among_14 (((a0.toUInt32 >>> ((16 : Int32).toUInt32 &&& Int32.toUInt32 31)).toInt32) - ((a0.toUInt32 >>> ((16 : Int32).toUInt32 &&& Int32.toUInt32 31)).toInt32) / a1 * a1) h)
set_option maxRecDepth 20000 in
set_option maxHeartbeats 4000000 in
theorem S_X11_among {d : Nat} (hd : 1 ≤ d) {a0 : Int32} {a1 : Int32} {h : MH} {r : Int32} {hz : MH} (hK : F_X11_among a0 a1 h = some (r, hz)) : mm_M yX11_among cX11_among 2 (some .int) d [.int a0, .int a1] h (.inr (some (.int r))) hz := by
  refine mm_ofV (by decide +kernel) (by simp [lg_sl, mm_crf, mm_cti, mm_ctl]) (fun V C => ?_)
  rw [show lv_args 0 [.int a0, .int a1] = [(0, .int a0), (1, .int a1)] by simp [lv_args, mm_crf, mm_cti, mm_ctl]]
  unfold F_X11_among at hK
  refine mm_iload_n C (pc := 0) 1 dX11_among_0 rfl ?_
  refine mm_if_le C (pc := 1) (tgt := 13) dX11_among_1 (by decide) (fun hc => ?_) (fun hc => ?_)
  · replace hK := mm_ip hc hK
    refine mm_iconst C (pc := 13) (v := (0 : Int32)) dX11_among_13 (by decide) ?_
    refine mm_sub C [] rfl ?_
    exact w_X11_among_14 hd C _ _ hK
  · replace hK := mm_in hc hK
    refine mm_iload_n C (pc := 4) 0 dX11_among_4 rfl ?_
    refine mm_bipush C (pc := 5) (v := (16 : Int32)) dX11_among_5 (by decide) ?_
    refine mm_iushr C (pc := 7) dX11_among_7 ?_
    refine mm_iload_n C (pc := 8) 1 dX11_among_8 rfl ?_
    by_cases hz9 : a1 = 0
    · rw [if_pos hz9] at hK; cases hK
    replace hK := mm_in hz9 hK
    refine mm_irem C (pc := 9) dX11_among_9 hz9 ?_
    refine mm_goto C (pc := 10) (tgt := 14) dX11_among_10 (by decide) ?_
    refine mm_sub C [] rfl ?_
    exact w_X11_among_14 hd C _ _ hK
theorem wd_1616 : Cond.code yX11_drawn cX11_drawn 1 (some .int) ∈ lw_good := mm_wd 1616 (by decide +kernel) (by decide +kernel)
theorem tT_X11_drawn : mm_T yX11_drawn cX11_drawn 1 (some .int) 1 := ⟨wd_1616, wd_142, by decide +kernel, by decide +kernel, by decide +kernel, by decide +kernel⟩
theorem wd_1614 : Cond.methodLink RX11 245 yX11_drawn ∈ lw_good := mm_wd 1614 (by decide +kernel) (by decide +kernel)
theorem wd_1615 : Cond.static yX11_drawn ∈ lw_good := mm_wd 1615 (by decide +kernel) (by decide +kernel)
theorem wd_1620 : Cond.code yX11_among cX11_among 2 (some .int) ∈ lw_good := mm_wd 1620 (by decide +kernel) (by decide +kernel)
theorem tT_X11_among : mm_T yX11_among cX11_among 2 (some .int) 2 := ⟨wd_1620, wd_142, by decide +kernel, by decide +kernel, by decide +kernel, by decide +kernel⟩
theorem wd_1618 : Cond.methodLink RX11 248 yX11_among ∈ lw_good := mm_wd 1618 (by decide +kernel) (by decide +kernel)
theorem wd_1619 : Cond.static yX11_among ∈ lw_good := mm_wd 1619 (by decide +kernel) (by decide +kernel)
def F_X11_spring_163 (k27 : Option Nat → Int32 → Int32 → Int32 → Int32 → Int32 → MH → Option ((String ⊕ Int32) × MH)) (l0 : Option Nat) (l2 : Int32) (l3 : Int32) (l4 : Int32) (l5 : Int32) (l6 : Int32) (h : MH) : Option ((String ⊕ Int32) × MH) := k27 l0 l2 l3 l4 l5 (l6 + (1 : Int32)) h
set_option maxRecDepth 20000 in
set_option maxHeartbeats 4000000 in
theorem w_X11_spring_163 {d : Nat} {V : Nat → List (Nat × Value) → List Value → MH → Prop} {r : String ⊕ Int32} {hz : MH} {k27 : Option Nat → Int32 → Int32 → Int32 → Int32 → Int32 → MH → Option ((String ⊕ Int32) × MH)} (hd : 8 ≤ d) (C : mm_C d yX11_spring cX11_spring 9 (some .int) (mm_oi r) hz V) (q27 : ∀ (x0 : Option Nat) (x1 : Int32) (x2 : Int32) (x3 : Int32) (x4 : Int32) (x5 : Int32) (h : MH), k27 x0 x1 x2 x3 x4 x5 h = some (r, hz) → V 27 [(0, va_rf x0), (2, .int x1), (3, .int x2), (4, .int x3), (5, .int x4), (6, .int x5)] [] h) (l0 : Option Nat) (l2 : Int32) (l3 : Int32) (l4 : Int32) (l5 : Int32) (l6 : Int32) (h : MH) (hK : F_X11_spring_163 k27 l0 l2 l3 l4 l5 l6 h = some (r, hz)) : V 163 [(0, va_rf l0), (2, .int l2), (3, .int l3), (4, .int l4), (5, .int l5), (6, .int l6)] [] h := by
  unfold F_X11_spring_163 at hK
  refine mm_iinc C (pc := 163) (v := (l6 + (1 : Int32))) (lv' := [(6, .int (l6 + (1 : Int32))), (0, va_rf l0), (2, .int l2), (3, .int l3), (4, .int l4), (5, .int l5)]) 5 dX11_spring_163 rfl rfl (by decide) rfl ?_
  refine mm_goto C (pc := 166) (tgt := 27) dX11_spring_166 (by decide) ?_
  refine mm_sub C [1, 2, 3, 4, 5, 0] rfl ?_
  exact q27 _ _ _ _ _ _ _ hK
def F_X11_spring_150 (k27 : Option Nat → Int32 → Int32 → Int32 → Int32 → Int32 → MH → Option ((String ⊕ Int32) × MH)) (l0 : Option Nat) (l2 : Int32) (l3 : Int32) (l4 : Int32) (l5 : Int32) (l6 : Int32) (l8 : Int32) (h : MH) : Option ((String ⊕ Int32) × MH) := mm_b2 (cV h l0 11 (F_X11_tryTold l0 (l8.toInt64) h)) fun v154 h154 => if v154 = 0 then (F_X11_spring_163 k27 l0 l2 l3 l4 l5 l6 h154) else (F_X11_spring_163 k27 l0 l2 l3 l4 (l5 + (1 : Int32)) l6 h154)
set_option maxRecDepth 20000 in
set_option maxHeartbeats 4000000 in
theorem w_X11_spring_150 {d : Nat} {V : Nat → List (Nat × Value) → List Value → MH → Prop} {r : String ⊕ Int32} {hz : MH} {k27 : Option Nat → Int32 → Int32 → Int32 → Int32 → Int32 → MH → Option ((String ⊕ Int32) × MH)} (hd : 8 ≤ d) (C : mm_C d yX11_spring cX11_spring 9 (some .int) (mm_oi r) hz V) (q27 : ∀ (x0 : Option Nat) (x1 : Int32) (x2 : Int32) (x3 : Int32) (x4 : Int32) (x5 : Int32) (h : MH), k27 x0 x1 x2 x3 x4 x5 h = some (r, hz) → V 27 [(0, va_rf x0), (2, .int x1), (3, .int x2), (4, .int x3), (5, .int x4), (6, .int x5)] [] h) (l0 : Option Nat) (l2 : Int32) (l3 : Int32) (l4 : Int32) (l5 : Int32) (l6 : Int32) (l8 : Int32) (h : MH) (hK : F_X11_spring_150 k27 l0 l2 l3 l4 l5 l6 l8 h = some (r, hz)) : V 150 [(0, va_rf l0), (2, .int l2), (3, .int l3), (4, .int l4), (5, .int l5), (6, .int l6), (8, .int l8)] [] h := by
  unfold F_X11_spring_150 at hK
  refine mm_aload_n C (pc := 150) 0 dX11_spring_150 rfl ?_
  refine mm_iload C (pc := 151) 6 dX11_spring_151 rfl ?_
  refine mm_i2l C (pc := 153) dX11_spring_153 ?_
  replace hK := mm_b2s hK; obtain ⟨v154, h154, e154, hK⟩ := hK
  obtain ⟨o154, e154⟩ := cV_some e154
  refine mm_callV C (pc := 154) (d1 := 7) (As := [.long (l8.toInt64)]) (st := []) (vk := (some (.int v154))) ((S_X11_tryTold (by omega)) e154) tT_X11_tryTold o154 (Or.inr ⟨_, rfl, rfl⟩) wd_1603 wd_1605 wd_42 (by omega) (by decide) rfl (by simp [mm_crf, mm_cti, mm_ctl]) rfl dX11_spring_154 ?_
  show V _ _ (.int v154 :: _) _
  refine mm_if_eq C (pc := 157) (tgt := 163) dX11_spring_157 (by decide) (fun hc => ?_) (fun hc => ?_)
  · replace hK := mm_ip hc hK
    refine mm_sub C [0, 1, 2, 3, 4, 5] rfl ?_
    exact w_X11_spring_163 hd C (fun z0 z1 z2 z3 z4 z5 z6 hK => q27 z0 z1 z2 z3 z4 z5 z6 hK) _ _ _ _ _ _ _ hK
  · replace hK := mm_in hc hK
    refine mm_iinc C (pc := 160) (v := (l5 + (1 : Int32))) (lv' := [(5, .int (l5 + (1 : Int32))), (0, va_rf l0), (2, .int l2), (3, .int l3), (4, .int l4), (6, .int l6), (8, .int l8)]) 4 dX11_spring_160 rfl rfl (by decide) rfl ?_
    refine mm_sub C [1, 2, 3, 4, 0, 5] rfl ?_
    exact w_X11_spring_163 hd C (fun z0 z1 z2 z3 z4 z5 z6 hK => q27 z0 z1 z2 z3 z4 z5 z6 hK) _ _ _ _ _ _ _ hK
def F_X11_spring_27 : Nat → Option Nat → Int32 → Int32 → Int32 → Int32 → Int32 → MH → Option ((String ⊕ Int32) × MH)
  | 0 => fun _ _ _ _ _ _ _ => none
  | n + 1 => fun l0 l2 l3 l4 l5 l6 h => if l2 ≤ l6 then (some (.inr l5, h)) else (mm_b2 (F_X11_drawn l4 h) fun v35 h35 => if (((v35.toUInt32 >>> ((16 : Int32).toUInt32 &&& Int32.toUInt32 31)).toInt32) - ((v35.toUInt32 >>> ((16 : Int32).toUInt32 &&& Int32.toUInt32 31)).toInt32) / (5 : Int32) * (5 : Int32)) = (2 : Int32) then (mm_b2 (F_X11_drawn v35 h35) fun v60 h60 => mm_b2 (F_X11_among v60 l3 h60) fun v70 h70 => mm_b2 (F_X11_drawn v60 h70) fun v78 h78 => mm_b2 (F_X11_among v78 l3 h78) fun v88 h88 => F_X11_spring_150 (F_X11_spring_27 n) l0 l2 l3 v78 l5 l6 (((10 : Int32) * v70) + v88) h88) else (if (((v35.toUInt32 >>> ((16 : Int32).toUInt32 &&& Int32.toUInt32 31)).toInt32) - ((v35.toUInt32 >>> ((16 : Int32).toUInt32 &&& Int32.toUInt32 31)).toInt32) / (5 : Int32) * (5 : Int32)) = (3 : Int32) then (mm_b2 (F_X11_drawn v35 h35) fun v105 h105 => mm_b2 (F_X11_among v105 l3 h105) fun v115 h115 => F_X11_spring_150 (F_X11_spring_27 n) l0 l2 l3 v105 l5 l6 ((100 : Int32) + v115) h115) else (if (((v35.toUInt32 >>> ((16 : Int32).toUInt32 &&& Int32.toUInt32 31)).toInt32) - ((v35.toUInt32 >>> ((16 : Int32).toUInt32 &&& Int32.toUInt32 31)).toInt32) / (5 : Int32) * (5 : Int32)) = (4 : Int32) then (mm_b2 (F_X11_drawn v35 h35) fun v132 h132 => mm_b2 (F_X11_among v132 (10 : Int32) h132) fun v144 h144 => F_X11_spring_150 (F_X11_spring_27 n) l0 l2 l3 v132 l5 l6 ((200 : Int32) + v144) h144) else (F_X11_spring_150 (F_X11_spring_27 n) l0 l2 l3 v35 l5 l6 ((-1) : Int32) h35))))
set_option maxRecDepth 20000 in
set_option maxHeartbeats 4000000 in
theorem w_X11_spring_27 {d : Nat} {V : Nat → List (Nat × Value) → List Value → MH → Prop} {r : String ⊕ Int32} {hz : MH} (hd : 8 ≤ d) (C : mm_C d yX11_spring cX11_spring 9 (some .int) (mm_oi r) hz V) : ∀ (n : Nat) (l0 : Option Nat) (l2 : Int32) (l3 : Int32) (l4 : Int32) (l5 : Int32) (l6 : Int32) (h : MH), F_X11_spring_27 n l0 l2 l3 l4 l5 l6 h = some (r, hz) → V 27 [(0, va_rf l0), (2, .int l2), (3, .int l3), (4, .int l4), (5, .int l5), (6, .int l6)] [] h := by
  intro n
  induction n with
  | zero => intro l0 l2 l3 l4 l5 l6 h hK; cases hK
  | succ n ih =>
    intro l0 l2 l3 l4 l5 l6 h hK
    replace hK : (if l2 ≤ l6 then (some (.inr l5, h)) else (mm_b2 (F_X11_drawn l4 h) fun v35 h35 => if (((v35.toUInt32 >>> ((16 : Int32).toUInt32 &&& Int32.toUInt32 31)).toInt32) - ((v35.toUInt32 >>> ((16 : Int32).toUInt32 &&& Int32.toUInt32 31)).toInt32) / (5 : Int32) * (5 : Int32)) = (2 : Int32) then (mm_b2 (F_X11_drawn v35 h35) fun v60 h60 => mm_b2 (F_X11_among v60 l3 h60) fun v70 h70 => mm_b2 (F_X11_drawn v60 h70) fun v78 h78 => mm_b2 (F_X11_among v78 l3 h78) fun v88 h88 => F_X11_spring_150 (F_X11_spring_27 n) l0 l2 l3 v78 l5 l6 (((10 : Int32) * v70) + v88) h88) else (if (((v35.toUInt32 >>> ((16 : Int32).toUInt32 &&& Int32.toUInt32 31)).toInt32) - ((v35.toUInt32 >>> ((16 : Int32).toUInt32 &&& Int32.toUInt32 31)).toInt32) / (5 : Int32) * (5 : Int32)) = (3 : Int32) then (mm_b2 (F_X11_drawn v35 h35) fun v105 h105 => mm_b2 (F_X11_among v105 l3 h105) fun v115 h115 => F_X11_spring_150 (F_X11_spring_27 n) l0 l2 l3 v105 l5 l6 ((100 : Int32) + v115) h115) else (if (((v35.toUInt32 >>> ((16 : Int32).toUInt32 &&& Int32.toUInt32 31)).toInt32) - ((v35.toUInt32 >>> ((16 : Int32).toUInt32 &&& Int32.toUInt32 31)).toInt32) / (5 : Int32) * (5 : Int32)) = (4 : Int32) then (mm_b2 (F_X11_drawn v35 h35) fun v132 h132 => mm_b2 (F_X11_among v132 (10 : Int32) h132) fun v144 h144 => F_X11_spring_150 (F_X11_spring_27 n) l0 l2 l3 v132 l5 l6 ((200 : Int32) + v144) h144) else (F_X11_spring_150 (F_X11_spring_27 n) l0 l2 l3 v35 l5 l6 ((-1) : Int32) h35))))) = some (r, hz) := hK
    refine mm_iload C (pc := 27) 5 dX11_spring_27 rfl ?_
    refine mm_iload_n C (pc := 29) 1 dX11_spring_29 rfl ?_
    refine mm_icmp_ge C (pc := 30) (tgt := 169) dX11_spring_30 (by decide) (fun hc => ?_) (fun hc => ?_)
    · replace hK := mm_ip hc hK
      refine mm_iload C (pc := 169) 4 dX11_spring_169 rfl ?_
      cases hK
      exact mm_iret C (pc := 171) rfl dX11_spring_171 rfl rfl
    · replace hK := mm_in hc hK
      refine mm_iload C (pc := 33) 3 dX11_spring_33 rfl ?_
      replace hK := mm_b2s hK; obtain ⟨v35, h35, e35, hK⟩ := hK
      refine mm_callS C (pc := 35) (d1 := 1) (As := [.int l4]) (st := []) (vk := (some (.int v35))) ((S_X11_drawn (by omega)) e35) tT_X11_drawn wd_1614 wd_1615 (by omega) (by decide) rfl (by simp [mm_crf, mm_cti, mm_ctl]) rfl dX11_spring_35 ?_
      show V _ _ (.int v35 :: _) _
      refine mm_istore C (pc := 38) (i := 4) (lv' := [(4, .int v35), (0, va_rf l0), (2, .int l2), (3, .int l3), (5, .int l5), (6, .int l6)]) dX11_spring_38 (by decide) rfl ?_
      refine mm_iload C (pc := 40) 0 dX11_spring_40 rfl ?_
      refine mm_bipush C (pc := 42) (v := (16 : Int32)) dX11_spring_42 (by decide) ?_
      refine mm_iushr C (pc := 44) dX11_spring_44 ?_
      refine mm_iconst C (pc := 45) (v := (5 : Int32)) dX11_spring_45 (by decide) ?_
      refine mm_irem C (pc := 46) dX11_spring_46 (by decide) ?_
      refine mm_istore C (pc := 47) (i := 7) (lv' := [(7, .int (((v35.toUInt32 >>> ((16 : Int32).toUInt32 &&& Int32.toUInt32 31)).toInt32) - ((v35.toUInt32 >>> ((16 : Int32).toUInt32 &&& Int32.toUInt32 31)).toInt32) / (5 : Int32) * (5 : Int32))), (4, .int v35), (0, va_rf l0), (2, .int l2), (3, .int l3), (5, .int l5), (6, .int l6)]) dX11_spring_47 (by decide) rfl ?_
      refine mm_iconst C (pc := 49) (v := ((-1) : Int32)) dX11_spring_49 (by decide) ?_
      refine mm_istore C (pc := 50) (i := 8) (lv' := [(8, .int ((-1) : Int32)), (7, .int (((v35.toUInt32 >>> ((16 : Int32).toUInt32 &&& Int32.toUInt32 31)).toInt32) - ((v35.toUInt32 >>> ((16 : Int32).toUInt32 &&& Int32.toUInt32 31)).toInt32) / (5 : Int32) * (5 : Int32))), (4, .int v35), (0, va_rf l0), (2, .int l2), (3, .int l3), (5, .int l5), (6, .int l6)]) dX11_spring_50 (by decide) rfl ?_
      refine mm_iload C (pc := 52) 1 dX11_spring_52 rfl ?_
      refine mm_iconst C (pc := 54) (v := (2 : Int32)) dX11_spring_54 (by decide) ?_
      refine mm_icmp_ne C (pc := 55) (tgt := 97) dX11_spring_55 (by decide) (fun hc => ?_) (fun hc => ?_)
      · replace hK := mm_in hc hK
        refine mm_iload C (pc := 97) 1 dX11_spring_97 rfl ?_
        refine mm_iconst C (pc := 99) (v := (3 : Int32)) dX11_spring_99 (by decide) ?_
        refine mm_icmp_ne C (pc := 100) (tgt := 124) dX11_spring_100 (by decide) (fun hc => ?_) (fun hc => ?_)
        · replace hK := mm_in hc hK
          refine mm_iload C (pc := 124) 1 dX11_spring_124 rfl ?_
          refine mm_iconst C (pc := 126) (v := (4 : Int32)) dX11_spring_126 (by decide) ?_
          refine mm_icmp_ne C (pc := 127) (tgt := 150) dX11_spring_127 (by decide) (fun hc => ?_) (fun hc => ?_)
          · replace hK := mm_in hc hK
            refine mm_sub C [3, 4, 5, 2, 6, 7, 0] rfl ?_
            exact w_X11_spring_150 hd C (fun z0 z1 z2 z3 z4 z5 z6 hK => ih z0 z1 z2 z3 z4 z5 z6 hK) _ _ _ _ _ _ _ _ hK
          · replace hK := mm_ip hc hK
            refine mm_iload C (pc := 130) 2 dX11_spring_130 rfl ?_
            replace hK := mm_b2s hK; obtain ⟨v132, h132, e132, hK⟩ := hK
            refine mm_callS C (pc := 132) (d1 := 1) (As := [.int v35]) (st := []) (vk := (some (.int v132))) ((S_X11_drawn (by omega)) e132) tT_X11_drawn wd_1614 wd_1615 (by omega) (by decide) rfl (by simp [mm_crf, mm_cti, mm_ctl]) rfl dX11_spring_132 ?_
            show V _ _ (.int v132 :: _) _
            refine mm_istore C (pc := 135) (i := 4) (lv' := [(4, .int v132), (8, .int ((-1) : Int32)), (7, .int (((v35.toUInt32 >>> ((16 : Int32).toUInt32 &&& Int32.toUInt32 31)).toInt32) - ((v35.toUInt32 >>> ((16 : Int32).toUInt32 &&& Int32.toUInt32 31)).toInt32) / (5 : Int32) * (5 : Int32))), (0, va_rf l0), (2, .int l2), (3, .int l3), (5, .int l5), (6, .int l6)]) dX11_spring_135 (by decide) rfl ?_
            refine mm_sipush C (pc := 137) (v := (200 : Int32)) dX11_spring_137 (by decide) ?_
            refine mm_iload C (pc := 140) 0 dX11_spring_140 rfl ?_
            refine mm_bipush C (pc := 142) (v := (10 : Int32)) dX11_spring_142 (by decide) ?_
            replace hK := mm_b2s hK; obtain ⟨v144, h144, e144, hK⟩ := hK
            refine mm_callS C (pc := 144) (d1 := 1) (As := [.int v132, .int (10 : Int32)]) (st := [.int (200 : Int32)]) (vk := (some (.int v144))) ((S_X11_among (by omega)) e144) tT_X11_among wd_1618 wd_1619 (by omega) (by decide) rfl (by simp [mm_crf, mm_cti, mm_ctl]) rfl dX11_spring_144 ?_
            show V _ _ (.int v144 :: _) _
            refine mm_iadd C (pc := 147) dX11_spring_147 ?_
            refine mm_istore C (pc := 148) (i := 8) (lv' := [(8, .int ((200 : Int32) + v144)), (4, .int v132), (7, .int (((v35.toUInt32 >>> ((16 : Int32).toUInt32 &&& Int32.toUInt32 31)).toInt32) - ((v35.toUInt32 >>> ((16 : Int32).toUInt32 &&& Int32.toUInt32 31)).toInt32) / (5 : Int32) * (5 : Int32))), (0, va_rf l0), (2, .int l2), (3, .int l3), (5, .int l5), (6, .int l6)]) dX11_spring_148 (by decide) rfl ?_
            refine mm_sub C [3, 4, 5, 1, 6, 7, 0] rfl ?_
            exact w_X11_spring_150 hd C (fun z0 z1 z2 z3 z4 z5 z6 hK => ih z0 z1 z2 z3 z4 z5 z6 hK) _ _ _ _ _ _ _ _ hK
        · replace hK := mm_ip hc hK
          refine mm_iload C (pc := 103) 2 dX11_spring_103 rfl ?_
          replace hK := mm_b2s hK; obtain ⟨v105, h105, e105, hK⟩ := hK
          refine mm_callS C (pc := 105) (d1 := 1) (As := [.int v35]) (st := []) (vk := (some (.int v105))) ((S_X11_drawn (by omega)) e105) tT_X11_drawn wd_1614 wd_1615 (by omega) (by decide) rfl (by simp [mm_crf, mm_cti, mm_ctl]) rfl dX11_spring_105 ?_
          show V _ _ (.int v105 :: _) _
          refine mm_istore C (pc := 108) (i := 4) (lv' := [(4, .int v105), (8, .int ((-1) : Int32)), (7, .int (((v35.toUInt32 >>> ((16 : Int32).toUInt32 &&& Int32.toUInt32 31)).toInt32) - ((v35.toUInt32 >>> ((16 : Int32).toUInt32 &&& Int32.toUInt32 31)).toInt32) / (5 : Int32) * (5 : Int32))), (0, va_rf l0), (2, .int l2), (3, .int l3), (5, .int l5), (6, .int l6)]) dX11_spring_108 (by decide) rfl ?_
          refine mm_bipush C (pc := 110) (v := (100 : Int32)) dX11_spring_110 (by decide) ?_
          refine mm_iload C (pc := 112) 0 dX11_spring_112 rfl ?_
          refine mm_iload_n C (pc := 114) 5 dX11_spring_114 rfl ?_
          replace hK := mm_b2s hK; obtain ⟨v115, h115, e115, hK⟩ := hK
          refine mm_callS C (pc := 115) (d1 := 1) (As := [.int v105, .int l3]) (st := [.int (100 : Int32)]) (vk := (some (.int v115))) ((S_X11_among (by omega)) e115) tT_X11_among wd_1618 wd_1619 (by omega) (by decide) rfl (by simp [mm_crf, mm_cti, mm_ctl]) rfl dX11_spring_115 ?_
          show V _ _ (.int v115 :: _) _
          refine mm_iadd C (pc := 118) dX11_spring_118 ?_
          refine mm_istore C (pc := 119) (i := 8) (lv' := [(8, .int ((100 : Int32) + v115)), (4, .int v105), (7, .int (((v35.toUInt32 >>> ((16 : Int32).toUInt32 &&& Int32.toUInt32 31)).toInt32) - ((v35.toUInt32 >>> ((16 : Int32).toUInt32 &&& Int32.toUInt32 31)).toInt32) / (5 : Int32) * (5 : Int32))), (0, va_rf l0), (2, .int l2), (3, .int l3), (5, .int l5), (6, .int l6)]) dX11_spring_119 (by decide) rfl ?_
          refine mm_goto C (pc := 121) (tgt := 150) dX11_spring_121 (by decide) ?_
          refine mm_sub C [3, 4, 5, 1, 6, 7, 0] rfl ?_
          exact w_X11_spring_150 hd C (fun z0 z1 z2 z3 z4 z5 z6 hK => ih z0 z1 z2 z3 z4 z5 z6 hK) _ _ _ _ _ _ _ _ hK
      · replace hK := mm_ip hc hK
        refine mm_iload C (pc := 58) 2 dX11_spring_58 rfl ?_
        replace hK := mm_b2s hK; obtain ⟨v60, h60, e60, hK⟩ := hK
        refine mm_callS C (pc := 60) (d1 := 1) (As := [.int v35]) (st := []) (vk := (some (.int v60))) ((S_X11_drawn (by omega)) e60) tT_X11_drawn wd_1614 wd_1615 (by omega) (by decide) rfl (by simp [mm_crf, mm_cti, mm_ctl]) rfl dX11_spring_60 ?_
        show V _ _ (.int v60 :: _) _
        refine mm_istore C (pc := 63) (i := 4) (lv' := [(4, .int v60), (8, .int ((-1) : Int32)), (7, .int (((v35.toUInt32 >>> ((16 : Int32).toUInt32 &&& Int32.toUInt32 31)).toInt32) - ((v35.toUInt32 >>> ((16 : Int32).toUInt32 &&& Int32.toUInt32 31)).toInt32) / (5 : Int32) * (5 : Int32))), (0, va_rf l0), (2, .int l2), (3, .int l3), (5, .int l5), (6, .int l6)]) dX11_spring_63 (by decide) rfl ?_
        refine mm_bipush C (pc := 65) (v := (10 : Int32)) dX11_spring_65 (by decide) ?_
        refine mm_iload C (pc := 67) 0 dX11_spring_67 rfl ?_
        refine mm_iload_n C (pc := 69) 5 dX11_spring_69 rfl ?_
        replace hK := mm_b2s hK; obtain ⟨v70, h70, e70, hK⟩ := hK
        refine mm_callS C (pc := 70) (d1 := 1) (As := [.int v60, .int l3]) (st := [.int (10 : Int32)]) (vk := (some (.int v70))) ((S_X11_among (by omega)) e70) tT_X11_among wd_1618 wd_1619 (by omega) (by decide) rfl (by simp [mm_crf, mm_cti, mm_ctl]) rfl dX11_spring_70 ?_
        show V _ _ (.int v70 :: _) _
        refine mm_imul C (pc := 73) dX11_spring_73 ?_
        refine mm_istore C (pc := 74) (i := 8) (lv' := [(8, .int ((10 : Int32) * v70)), (4, .int v60), (7, .int (((v35.toUInt32 >>> ((16 : Int32).toUInt32 &&& Int32.toUInt32 31)).toInt32) - ((v35.toUInt32 >>> ((16 : Int32).toUInt32 &&& Int32.toUInt32 31)).toInt32) / (5 : Int32) * (5 : Int32))), (0, va_rf l0), (2, .int l2), (3, .int l3), (5, .int l5), (6, .int l6)]) dX11_spring_74 (by decide) rfl ?_
        refine mm_iload C (pc := 76) 1 dX11_spring_76 rfl ?_
        replace hK := mm_b2s hK; obtain ⟨v78, h78, e78, hK⟩ := hK
        refine mm_callS C (pc := 78) (d1 := 1) (As := [.int v60]) (st := []) (vk := (some (.int v78))) ((S_X11_drawn (by omega)) e78) tT_X11_drawn wd_1614 wd_1615 (by omega) (by decide) rfl (by simp [mm_crf, mm_cti, mm_ctl]) rfl dX11_spring_78 ?_
        show V _ _ (.int v78 :: _) _
        refine mm_istore C (pc := 81) (i := 4) (lv' := [(4, .int v78), (8, .int ((10 : Int32) * v70)), (7, .int (((v35.toUInt32 >>> ((16 : Int32).toUInt32 &&& Int32.toUInt32 31)).toInt32) - ((v35.toUInt32 >>> ((16 : Int32).toUInt32 &&& Int32.toUInt32 31)).toInt32) / (5 : Int32) * (5 : Int32))), (0, va_rf l0), (2, .int l2), (3, .int l3), (5, .int l5), (6, .int l6)]) dX11_spring_81 (by decide) rfl ?_
        refine mm_iload C (pc := 83) 1 dX11_spring_83 rfl ?_
        refine mm_iload C (pc := 85) 0 dX11_spring_85 rfl ?_
        refine mm_iload_n C (pc := 87) 5 dX11_spring_87 rfl ?_
        replace hK := mm_b2s hK; obtain ⟨v88, h88, e88, hK⟩ := hK
        refine mm_callS C (pc := 88) (d1 := 1) (As := [.int v78, .int l3]) (st := [.int ((10 : Int32) * v70)]) (vk := (some (.int v88))) ((S_X11_among (by omega)) e88) tT_X11_among wd_1618 wd_1619 (by omega) (by decide) rfl (by simp [mm_crf, mm_cti, mm_ctl]) rfl dX11_spring_88 ?_
        show V _ _ (.int v88 :: _) _
        refine mm_iadd C (pc := 91) dX11_spring_91 ?_
        refine mm_istore C (pc := 92) (i := 8) (lv' := [(8, .int (((10 : Int32) * v70) + v88)), (4, .int v78), (7, .int (((v35.toUInt32 >>> ((16 : Int32).toUInt32 &&& Int32.toUInt32 31)).toInt32) - ((v35.toUInt32 >>> ((16 : Int32).toUInt32 &&& Int32.toUInt32 31)).toInt32) / (5 : Int32) * (5 : Int32))), (0, va_rf l0), (2, .int l2), (3, .int l3), (5, .int l5), (6, .int l6)]) dX11_spring_92 (by decide) rfl ?_
        refine mm_goto C (pc := 94) (tgt := 150) dX11_spring_94 (by decide) ?_
        refine mm_sub C [3, 4, 5, 1, 6, 7, 0] rfl ?_
        exact w_X11_spring_150 hd C (fun z0 z1 z2 z3 z4 z5 z6 hK => ih z0 z1 z2 z3 z4 z5 z6 hK) _ _ _ _ _ _ _ _ hK
def F_X11_spring (a0 : Option Nat) (a1 : Int32) (a2 : Int32) (h : MH) : Option ((String ⊕ Int32) × MH) := mm_b3 (F_X11_needWithin a2 (1 : Int32) (30 : Int32) h) fun _ h4 => (gR h4 a0 11 5).bind fun v8 => (gR h4 v8 0 2).bind fun v11 => (gI h4 v11 8 0).bind fun v14 => F_X11_spring_27 mm_N a0 a2 v14 a1 (0 : Int32) (0 : Int32) h4
set_option maxRecDepth 20000 in
set_option maxHeartbeats 4000000 in
theorem S_X11_spring {d : Nat} (hd : 8 ≤ d) {a0 : Option Nat} {a1 : Int32} {a2 : Int32} {h : MH} {r : String ⊕ Int32} {hz : MH} (hK : F_X11_spring a0 a1 a2 h = some (r, hz)) : mm_M yX11_spring cX11_spring 9 (some .int) d [va_rf a0, .int a1, .int a2] h (mm_oi r) hz := by
  refine mm_ofV (by decide +kernel) (by simp [lg_sl, mm_crf, mm_cti, mm_ctl]) (fun V C => ?_)
  rw [show lv_args 0 [va_rf a0, .int a1, .int a2] = [(0, va_rf a0), (1, .int a1), (2, .int a2)] by simp [lv_args, mm_crf, mm_cti, mm_ctl]]
  unfold F_X11_spring at hK
  refine mm_iload_n C (pc := 0) 2 dX11_spring_0 rfl ?_
  refine mm_iconst C (pc := 1) (v := (1 : Int32)) dX11_spring_1 (by decide) ?_
  refine mm_bipush C (pc := 2) (v := (30 : Int32)) dX11_spring_2 (by decide) ?_
  replace hK := mm_b3s hK; rcases hK with ⟨E4, e4, rfl⟩ | ⟨v4, h4, e4, hK⟩
  · skip
    exact mm_callSX C (pc := 4) (d1 := 6) (As := [.int a2, .int (1 : Int32), .int (30 : Int32)]) (st := []) ((S_X11_needWithin (by omega)) e4) tT_X11_needWithin wd_1163 wd_1164 (by omega) (by decide) rfl (by simp [mm_crf, mm_cti, mm_ctl]) rfl dX11_spring_4 rfl rfl
  refine mm_callS C (pc := 4) (d1 := 6) (As := [.int a2, .int (1 : Int32), .int (30 : Int32)]) (st := []) (vk := none) ((S_X11_needWithin (by omega)) e4) tT_X11_needWithin wd_1163 wd_1164 (by omega) (by decide) rfl (by simp [mm_crf, mm_cti, mm_ctl]) rfl dX11_spring_4 ?_
  show V _ _ [] _
  refine mm_aload_n C (pc := 7) 0 dX11_spring_7 rfl ?_
  replace hK := mm_bd hK; obtain ⟨v8, e8, hK⟩ := hK
  refine mm_getr C (pc := 8) (k := 5) inGX11 rfl (by decide) wd_850 dX11_spring_8 e8 ?_
  replace hK := mm_bd hK; obtain ⟨v11, e11, hK⟩ := hK
  refine mm_getr C (pc := 11) (k := 2) inGX0 rfl (by decide) wd_819 dX11_spring_11 e11 ?_
  replace hK := mm_bd hK; obtain ⟨v14, e14, hK⟩ := hK
  refine mm_geti C (pc := 14) (k := 0) inGX8 rfl (by decide) wd_776 dX11_spring_14 e14 ?_
  refine mm_istore_n C (pc := 17) (i := 3) (lv' := [(3, .int v14), (0, va_rf a0), (1, .int a1), (2, .int a2)]) dX11_spring_17 rfl (by decide) rfl ?_
  refine mm_iload_n C (pc := 18) 2 dX11_spring_18 rfl ?_
  refine mm_istore C (pc := 19) (i := 4) (lv' := [(4, .int a1), (3, .int v14), (0, va_rf a0), (1, .int a1), (2, .int a2)]) dX11_spring_19 (by decide) rfl ?_
  refine mm_iconst C (pc := 21) (v := (0 : Int32)) dX11_spring_21 (by decide) ?_
  refine mm_istore C (pc := 22) (i := 5) (lv' := [(5, .int (0 : Int32)), (4, .int a1), (3, .int v14), (0, va_rf a0), (1, .int a1), (2, .int a2)]) dX11_spring_22 (by decide) rfl ?_
  refine mm_iconst C (pc := 24) (v := (0 : Int32)) dX11_spring_24 (by decide) ?_
  refine mm_istore C (pc := 25) (i := 6) (lv' := [(6, .int (0 : Int32)), (5, .int (0 : Int32)), (4, .int a1), (3, .int v14), (0, va_rf a0), (1, .int a1), (2, .int a2)]) dX11_spring_25 (by decide) rfl ?_
  refine mm_sub C [4, 6, 3, 2, 1, 0] rfl ?_
  exact w_X11_spring_27 hd C _ _ _ _ _ _ _ _ hK
def F_X11_needMinutes (a0 : Int32) (h : MH) : Option ((String ⊕ Unit) × MH) := mm_b3 (F_X11_needWithin a0 (1 : Int32) (999 : Int32) h) fun _ h5 => some (.inr (), h5)
set_option maxRecDepth 20000 in
set_option maxHeartbeats 4000000 in
theorem S_X11_needMinutes {d : Nat} (hd : 7 ≤ d) {a0 : Int32} {h : MH} {r : String ⊕ Unit} {hz : MH} (hK : F_X11_needMinutes a0 h = some (r, hz)) : mm_M yX11_needMinutes cX11_needMinutes 1 none d [.int a0] h (mm_ov r) hz := by
  refine mm_ofV (by decide +kernel) (by simp [lg_sl, mm_crf, mm_cti, mm_ctl]) (fun V C => ?_)
  rw [show lv_args 0 [.int a0] = [(0, .int a0)] by simp [lv_args, mm_crf, mm_cti, mm_ctl]]
  unfold F_X11_needMinutes at hK
  refine mm_iload_n C (pc := 0) 0 dX11_needMinutes_0 rfl ?_
  refine mm_iconst C (pc := 1) (v := (1 : Int32)) dX11_needMinutes_1 (by decide) ?_
  refine mm_sipush C (pc := 2) (v := (999 : Int32)) dX11_needMinutes_2 (by decide) ?_
  replace hK := mm_b3s hK; rcases hK with ⟨E5, e5, rfl⟩ | ⟨v5, h5, e5, hK⟩
  · skip
    exact mm_callSX C (pc := 5) (d1 := 6) (As := [.int a0, .int (1 : Int32), .int (999 : Int32)]) (st := []) ((S_X11_needWithin (by omega)) e5) tT_X11_needWithin wd_1163 wd_1164 (by omega) (by decide) rfl (by simp [mm_crf, mm_cti, mm_ctl]) rfl dX11_needMinutes_5 rfl rfl
  refine mm_callS C (pc := 5) (d1 := 6) (As := [.int a0, .int (1 : Int32), .int (999 : Int32)]) (st := []) (vk := none) ((S_X11_needWithin (by omega)) e5) tT_X11_needWithin wd_1163 wd_1164 (by omega) (by decide) rfl (by simp [mm_crf, mm_cti, mm_ctl]) rfl dX11_needMinutes_5 ?_
  show V _ _ [] _
  cases hK
  exact mm_vret C (pc := 8) rfl dX11_needMinutes_8 rfl rfl
def F_X11_foresee (a0 : Option Nat) (a1 : Int32) (h : MH) : Option (Int32 × MH) := (gR h a0 11 7).bind fun v1 => (gR h a0 11 5).bind fun v5 => (cV h v1 0 (F_X0_become v1 v5 h)).bind fun h8 => (gR h8 a0 11 7).bind fun v12 => mm_b2 (cV h8 v12 0 (F_X0_pass v12 a1 h8)) fun v16 h16 => some (v16, h16)
set_option maxRecDepth 20000 in
set_option maxHeartbeats 4000000 in
theorem S_X11_foresee {d : Nat} (hd : 6 ≤ d) {a0 : Option Nat} {a1 : Int32} {h : MH} {r : Int32} {hz : MH} (hK : F_X11_foresee a0 a1 h = some (r, hz)) : mm_M yX11_foresee cX11_foresee 2 (some .int) d [va_rf a0, .int a1] h (.inr (some (.int r))) hz := by
  refine mm_ofV (by decide +kernel) (by simp [lg_sl, mm_crf, mm_cti, mm_ctl]) (fun V C => ?_)
  rw [show lv_args 0 [va_rf a0, .int a1] = [(0, va_rf a0), (1, .int a1)] by simp [lv_args, mm_crf, mm_cti, mm_ctl]]
  unfold F_X11_foresee at hK
  refine mm_aload_n C (pc := 0) 0 dX11_foresee_0 rfl ?_
  replace hK := mm_bd hK; obtain ⟨v1, e1, hK⟩ := hK
  refine mm_getr C (pc := 1) (k := 7) inGX11 rfl (by decide) wd_852 dX11_foresee_1 e1 ?_
  refine mm_aload_n C (pc := 4) 0 dX11_foresee_4 rfl ?_
  replace hK := mm_bd hK; obtain ⟨v5, e5, hK⟩ := hK
  refine mm_getr C (pc := 5) (k := 5) inGX11 rfl (by decide) wd_850 dX11_foresee_5 e5 ?_
  replace hK := mm_bd hK; obtain ⟨h8, e8, hK⟩ := hK
  obtain ⟨o8, e8⟩ := cV_some e8
  refine mm_callV C (pc := 8) (d1 := 1) (As := [va_rf v5]) (st := []) (vk := none) ((S_X0_become (by omega)) e8) tT_X0_become o8 (Or.inr ⟨_, rfl, rfl⟩) wd_976 wd_977 wd_978 (by omega) (by decide) rfl (by simp [mm_crf, mm_cti, mm_ctl]) rfl dX11_foresee_8 ?_
  show V _ _ [] _
  refine mm_aload_n C (pc := 11) 0 dX11_foresee_11 rfl ?_
  replace hK := mm_bd hK; obtain ⟨v12, e12, hK⟩ := hK
  refine mm_getr C (pc := 12) (k := 7) inGX11 rfl (by decide) wd_852 dX11_foresee_12 e12 ?_
  refine mm_iload_n C (pc := 15) 1 dX11_foresee_15 rfl ?_
  replace hK := mm_b2s hK; obtain ⟨v16, h16, e16, hK⟩ := hK
  obtain ⟨o16, e16⟩ := cV_some e16
  refine mm_callV C (pc := 16) (d1 := 5) (As := [.int a1]) (st := []) (vk := (some (.int v16))) ((S_X0_pass (by omega)) e16) tT_X0_pass o16 (Or.inr ⟨_, rfl, rfl⟩) wd_980 wd_981 wd_982 (by omega) (by decide) rfl (by simp [mm_crf, mm_cti, mm_ctl]) rfl dX11_foresee_16 ?_
  show V _ _ (.int v16 :: _) _
  cases hK
  exact mm_iret C (pc := 19) rfl dX11_foresee_19 rfl rfl
theorem wd_1630 : Cond.code yX11_needMinutes cX11_needMinutes 1 none ∈ lw_good := mm_wd 1630 (by decide +kernel) (by decide +kernel)
theorem tT_X11_needMinutes : mm_T yX11_needMinutes cX11_needMinutes 1 none 1 := ⟨wd_1630, wd_142, by decide +kernel, by decide +kernel, by decide +kernel, by decide +kernel⟩
theorem wd_1628 : Cond.methodLink RX11 252 yX11_needMinutes ∈ lw_good := mm_wd 1628 (by decide +kernel) (by decide +kernel)
theorem wd_1629 : Cond.static yX11_needMinutes ∈ lw_good := mm_wd 1629 (by decide +kernel) (by decide +kernel)
theorem wd_975 : Cond.code yX11_foresee cX11_foresee 2 (some .int) ∈ lw_good := mm_wd 975 (by decide +kernel) (by decide +kernel)
theorem tT_X11_foresee : mm_T yX11_foresee cX11_foresee 2 (some .int) 1 := ⟨wd_975, wd_142, by decide +kernel, by decide +kernel, by decide +kernel, by decide +kernel⟩
theorem wd_972 : Cond.methodLink RX11 255 yX11_foresee ∈ lw_good := mm_wd 972 (by decide +kernel) (by decide +kernel)
theorem wd_974 : Cond.instanceMethod yX11_foresee ∈ lw_good := mm_wd 974 (by decide +kernel) (by decide +kernel)
theorem wd_7 : Cond.selects RX11 yX11_foresee yX11_foresee ∈ lw_good := mm_wd 7 (by decide +kernel) (by decide +kernel)
def F_X11_lost (a0 : Option Nat) (a1 : Int32) (h : MH) : Option ((String ⊕ Int32) × MH) := mm_b3 (F_X11_needMinutes a1 h) fun _ h1 => mm_b2 (cV h1 a0 11 (F_X11_foresee a0 a1 h1)) fun v6 h6 => some (.inr v6, h6)
set_option maxRecDepth 20000 in
set_option maxHeartbeats 4000000 in
theorem S_X11_lost {d : Nat} (hd : 8 ≤ d) {a0 : Option Nat} {a1 : Int32} {h : MH} {r : String ⊕ Int32} {hz : MH} (hK : F_X11_lost a0 a1 h = some (r, hz)) : mm_M yX11_lost cX11_lost 2 (some .int) d [va_rf a0, .int a1] h (mm_oi r) hz := by
  refine mm_ofV (by decide +kernel) (by simp [lg_sl, mm_crf, mm_cti, mm_ctl]) (fun V C => ?_)
  rw [show lv_args 0 [va_rf a0, .int a1] = [(0, va_rf a0), (1, .int a1)] by simp [lv_args, mm_crf, mm_cti, mm_ctl]]
  unfold F_X11_lost at hK
  refine mm_iload_n C (pc := 0) 1 dX11_lost_0 rfl ?_
  replace hK := mm_b3s hK; rcases hK with ⟨E1, e1, rfl⟩ | ⟨v1, h1, e1, hK⟩
  · skip
    exact mm_callSX C (pc := 1) (d1 := 7) (As := [.int a1]) (st := []) ((S_X11_needMinutes (by omega)) e1) tT_X11_needMinutes wd_1628 wd_1629 (by omega) (by decide) rfl (by simp [mm_crf, mm_cti, mm_ctl]) rfl dX11_lost_1 rfl rfl
  refine mm_callS C (pc := 1) (d1 := 7) (As := [.int a1]) (st := []) (vk := none) ((S_X11_needMinutes (by omega)) e1) tT_X11_needMinutes wd_1628 wd_1629 (by omega) (by decide) rfl (by simp [mm_crf, mm_cti, mm_ctl]) rfl dX11_lost_1 ?_
  show V _ _ [] _
  refine mm_aload_n C (pc := 4) 0 dX11_lost_4 rfl ?_
  refine mm_iload_n C (pc := 5) 1 dX11_lost_5 rfl ?_
  replace hK := mm_b2s hK; obtain ⟨v6, h6, e6, hK⟩ := hK
  obtain ⟨o6, e6⟩ := cV_some e6
  refine mm_callV C (pc := 6) (d1 := 6) (As := [.int a1]) (st := []) (vk := (some (.int v6))) ((S_X11_foresee (by omega)) e6) tT_X11_foresee o6 (Or.inr ⟨_, rfl, rfl⟩) wd_972 wd_974 wd_7 (by omega) (by decide) rfl (by simp [mm_crf, mm_cti, mm_ctl]) rfl dX11_lost_6 ?_
  show V _ _ (.int v6 :: _) _
  cases hK
  exact mm_iret C (pc := 9) rfl dX11_lost_9 rfl rfl
theorem wd_1076 : Cond.methodLink RX11 261 yX0_isToCome ∈ lw_good := mm_wd 1076 (by decide +kernel) (by decide +kernel)
def F_X11_firstLost_85 (k12 : Option Nat → Int32 → Int32 → MH → Option (Int32 × MH)) (l0 : Option Nat) (l1 : Int32) (l2 : Int32) (h : MH) : Option (Int32 × MH) := k12 l0 l1 (l2 + (1 : Int32)) h
set_option maxRecDepth 20000 in
set_option maxHeartbeats 4000000 in
theorem w_X11_firstLost_85 {d : Nat} {V : Nat → List (Nat × Value) → List Value → MH → Prop} {r : Int32} {hz : MH} {k12 : Option Nat → Int32 → Int32 → MH → Option (Int32 × MH)} (hd : 7 ≤ d) (C : mm_C d yX11_firstLost cX11_firstLost 4 (some .int) (.inr (some (.int r))) hz V) (q12 : ∀ (x0 : Option Nat) (x1 : Int32) (x2 : Int32) (h : MH), k12 x0 x1 x2 h = some (r, hz) → V 12 [(0, va_rf x0), (1, .int x1), (2, .int x2)] [] h) (l0 : Option Nat) (l1 : Int32) (l2 : Int32) (h : MH) (hK : F_X11_firstLost_85 k12 l0 l1 l2 h = some (r, hz)) : V 85 [(0, va_rf l0), (1, .int l1), (2, .int l2)] [] h := by
  unfold F_X11_firstLost_85 at hK
  refine mm_iinc C (pc := 85) (v := (l2 + (1 : Int32))) (lv' := [(2, .int (l2 + (1 : Int32))), (0, va_rf l0), (1, .int l1)]) 2 dX11_firstLost_85 rfl rfl (by decide) rfl ?_
  refine mm_goto C (pc := 88) (tgt := 12) dX11_firstLost_88 (by decide) ?_
  refine mm_sub C [1, 2, 0] rfl ?_
  exact q12 _ _ _ _ hK
def F_X11_firstLost_83 (k12 : Option Nat → Int32 → Int32 → MH → Option (Int32 × MH)) (l0 : Option Nat) (l2 : Int32) (h : MH) : Option (Int32 × MH) := F_X11_firstLost_85 k12 l0 l2 l2 h
set_option maxRecDepth 20000 in
set_option maxHeartbeats 4000000 in
theorem w_X11_firstLost_83 {d : Nat} {V : Nat → List (Nat × Value) → List Value → MH → Prop} {r : Int32} {hz : MH} {k12 : Option Nat → Int32 → Int32 → MH → Option (Int32 × MH)} (hd : 7 ≤ d) (C : mm_C d yX11_firstLost cX11_firstLost 4 (some .int) (.inr (some (.int r))) hz V) (q12 : ∀ (x0 : Option Nat) (x1 : Int32) (x2 : Int32) (h : MH), k12 x0 x1 x2 h = some (r, hz) → V 12 [(0, va_rf x0), (1, .int x1), (2, .int x2)] [] h) (l0 : Option Nat) (l2 : Int32) (h : MH) (hK : F_X11_firstLost_83 k12 l0 l2 h = some (r, hz)) : V 83 [(0, va_rf l0), (2, .int l2)] [] h := by
  unfold F_X11_firstLost_83 at hK
  refine mm_iload_n C (pc := 83) 1 dX11_firstLost_83 rfl ?_
  refine mm_istore_n C (pc := 84) (i := 1) (lv' := [(1, .int l2), (0, va_rf l0), (2, .int l2)]) dX11_firstLost_84 rfl (by decide) (by simp [mm_crf]) ?_
  refine mm_sub C [1, 0, 2] rfl ?_
  exact w_X11_firstLost_85 hd C (fun z0 z1 z2 z3 hK => q12 z0 z1 z2 z3 hK) _ _ _ _ hK
def F_X11_firstLost_52 (k12 : Option Nat → Int32 → Int32 → MH → Option (Int32 × MH)) (l0 : Option Nat) (l1 : Int32) (l2 : Int32) (s0 : Int32) (h : MH) : Option (Int32 × MH) := if s0 = 0 then (F_X11_firstLost_85 k12 l0 l1 l2 h) else (if l1 = ((-1) : Int32) then (F_X11_firstLost_83 k12 l0 l2 h) else ((gR h l0 11 5).bind fun v63 => mm_b2 (cV h v63 0 (F_X0_fact v63 l2 (2 : Int32) h)) fun v68 h68 => (gR h68 l0 11 5).bind fun v72 => mm_b2 (cV h68 v72 0 (F_X0_fact v72 l1 (2 : Int32) h68)) fun v77 h77 => if v77 ≤ v68 then (F_X11_firstLost_85 k12 l0 l1 l2 h77) else (F_X11_firstLost_83 k12 l0 l2 h77)))
set_option maxRecDepth 20000 in
set_option maxHeartbeats 4000000 in
theorem w_X11_firstLost_52 {d : Nat} {V : Nat → List (Nat × Value) → List Value → MH → Prop} {r : Int32} {hz : MH} {k12 : Option Nat → Int32 → Int32 → MH → Option (Int32 × MH)} (hd : 7 ≤ d) (C : mm_C d yX11_firstLost cX11_firstLost 4 (some .int) (.inr (some (.int r))) hz V) (q12 : ∀ (x0 : Option Nat) (x1 : Int32) (x2 : Int32) (h : MH), k12 x0 x1 x2 h = some (r, hz) → V 12 [(0, va_rf x0), (1, .int x1), (2, .int x2)] [] h) (l0 : Option Nat) (l1 : Int32) (l2 : Int32) (s0 : Int32) (h : MH) (hK : F_X11_firstLost_52 k12 l0 l1 l2 s0 h = some (r, hz)) : V 52 [(0, va_rf l0), (1, .int l1), (2, .int l2)] [.int s0] h := by
  unfold F_X11_firstLost_52 at hK
  refine mm_istore_n C (pc := 52) (i := 3) (lv' := [(3, .int s0), (0, va_rf l0), (1, .int l1), (2, .int l2)]) dX11_firstLost_52 rfl (by decide) rfl ?_
  refine mm_iload_n C (pc := 53) 0 dX11_firstLost_53 rfl ?_
  refine mm_if_eq C (pc := 54) (tgt := 85) dX11_firstLost_54 (by decide) (fun hc => ?_) (fun hc => ?_)
  · replace hK := mm_ip hc hK
    refine mm_sub C [1, 2, 3] rfl ?_
    exact w_X11_firstLost_85 hd C (fun z0 z1 z2 z3 hK => q12 z0 z1 z2 z3 hK) _ _ _ _ hK
  · replace hK := mm_in hc hK
    refine mm_iload_n C (pc := 57) 2 dX11_firstLost_57 rfl ?_
    refine mm_iconst C (pc := 58) (v := ((-1) : Int32)) dX11_firstLost_58 (by decide) ?_
    refine mm_icmp_eq C (pc := 59) (tgt := 83) dX11_firstLost_59 (by decide) (fun hc => ?_) (fun hc => ?_)
    · replace hK := mm_ip hc hK
      refine mm_sub C [1, 3] rfl ?_
      exact w_X11_firstLost_83 hd C (fun z0 z1 z2 z3 hK => q12 z0 z1 z2 z3 hK) _ _ _ hK
    · replace hK := mm_in hc hK
      refine mm_aload_n C (pc := 62) 1 dX11_firstLost_62 rfl ?_
      replace hK := mm_bd hK; obtain ⟨v63, e63, hK⟩ := hK
      refine mm_getr C (pc := 63) (k := 5) inGX11 rfl (by decide) wd_850 dX11_firstLost_63 e63 ?_
      refine mm_iload_n C (pc := 66) 3 dX11_firstLost_66 rfl ?_
      refine mm_iconst C (pc := 67) (v := (2 : Int32)) dX11_firstLost_67 (by decide) ?_
      replace hK := mm_b2s hK; obtain ⟨v68, h68, e68, hK⟩ := hK
      obtain ⟨o68, e68⟩ := cV_some e68
      refine mm_callV C (pc := 68) (d1 := 1) (As := [.int l2, .int (2 : Int32)]) (st := []) (vk := (some (.int v68))) ((S_X0_fact (by omega)) e68) tT_X0_fact o68 (Or.inr ⟨_, rfl, rfl⟩) wd_1077 wd_961 wd_962 (by omega) (by decide) rfl (by simp [mm_crf, mm_cti, mm_ctl]) rfl dX11_firstLost_68 ?_
      show V _ _ (.int v68 :: _) _
      refine mm_aload_n C (pc := 71) 1 dX11_firstLost_71 rfl ?_
      replace hK := mm_bd hK; obtain ⟨v72, e72, hK⟩ := hK
      refine mm_getr C (pc := 72) (k := 5) inGX11 rfl (by decide) wd_850 dX11_firstLost_72 e72 ?_
      refine mm_iload_n C (pc := 75) 2 dX11_firstLost_75 rfl ?_
      refine mm_iconst C (pc := 76) (v := (2 : Int32)) dX11_firstLost_76 (by decide) ?_
      replace hK := mm_b2s hK; obtain ⟨v77, h77, e77, hK⟩ := hK
      obtain ⟨o77, e77⟩ := cV_some e77
      refine mm_callV C (pc := 77) (d1 := 1) (As := [.int l1, .int (2 : Int32)]) (st := [.int v68]) (vk := (some (.int v77))) ((S_X0_fact (by omega)) e77) tT_X0_fact o77 (Or.inr ⟨_, rfl, rfl⟩) wd_1077 wd_961 wd_962 (by omega) (by decide) rfl (by simp [mm_crf, mm_cti, mm_ctl]) rfl dX11_firstLost_77 ?_
      show V _ _ (.int v77 :: _) _
      refine mm_icmp_ge C (pc := 80) (tgt := 85) dX11_firstLost_80 (by decide) (fun hc => ?_) (fun hc => ?_)
      · replace hK := mm_ip hc hK
        refine mm_sub C [1, 2, 3] rfl ?_
        exact w_X11_firstLost_85 hd C (fun z0 z1 z2 z3 hK => q12 z0 z1 z2 z3 hK) _ _ _ _ hK
      · replace hK := mm_in hc hK
        refine mm_sub C [1, 3] rfl ?_
        exact w_X11_firstLost_83 hd C (fun z0 z1 z2 z3 hK => q12 z0 z1 z2 z3 hK) _ _ _ hK
def F_X11_firstLost_51 (k12 : Option Nat → Int32 → Int32 → MH → Option (Int32 × MH)) (l0 : Option Nat) (l1 : Int32) (l2 : Int32) (h : MH) : Option (Int32 × MH) := F_X11_firstLost_52 k12 l0 l1 l2 (0 : Int32) h
set_option maxRecDepth 20000 in
set_option maxHeartbeats 4000000 in
theorem w_X11_firstLost_51 {d : Nat} {V : Nat → List (Nat × Value) → List Value → MH → Prop} {r : Int32} {hz : MH} {k12 : Option Nat → Int32 → Int32 → MH → Option (Int32 × MH)} (hd : 7 ≤ d) (C : mm_C d yX11_firstLost cX11_firstLost 4 (some .int) (.inr (some (.int r))) hz V) (q12 : ∀ (x0 : Option Nat) (x1 : Int32) (x2 : Int32) (h : MH), k12 x0 x1 x2 h = some (r, hz) → V 12 [(0, va_rf x0), (1, .int x1), (2, .int x2)] [] h) (l0 : Option Nat) (l1 : Int32) (l2 : Int32) (h : MH) (hK : F_X11_firstLost_51 k12 l0 l1 l2 h = some (r, hz)) : V 51 [(0, va_rf l0), (1, .int l1), (2, .int l2)] [] h := by
  unfold F_X11_firstLost_51 at hK
  refine mm_iconst C (pc := 51) (v := (0 : Int32)) dX11_firstLost_51 (by decide) ?_
  exact w_X11_firstLost_52 hd C (fun z0 z1 z2 z3 hK => q12 z0 z1 z2 z3 hK) _ _ _ _ _ hK
def F_X11_firstLost_12 : Nat → Option Nat → Int32 → Int32 → MH → Option (Int32 × MH)
  | 0 => fun _ _ _ _ => none
  | n + 1 => fun l0 l1 l2 h => (gR h l0 11 5).bind fun v14 => mm_b2 (cV h v14 0 (F_X0_calls v14 h)) fun v17 h17 => if v17 ≤ l2 then (some (l1, h17)) else ((gR h17 l0 11 5).bind fun v24 => mm_b2 (cV h17 v24 0 (F_X0_isToCome v24 l2 h17)) fun v28 h28 => if v28 = 0 then (F_X11_firstLost_51 (F_X11_firstLost_12 n) l0 l1 l2 h28) else ((gR h28 l0 11 7).bind fun v35 => mm_b2 (cV h28 v35 0 (F_X0_fact v35 l2 (4 : Int32) h28)) fun v40 h40 => if v40 = (3 : Int32) then (F_X11_firstLost_52 (F_X11_firstLost_12 n) l0 l1 l2 (1 : Int32) h40) else (F_X11_firstLost_51 (F_X11_firstLost_12 n) l0 l1 l2 h40)))
set_option maxRecDepth 20000 in
set_option maxHeartbeats 4000000 in
theorem w_X11_firstLost_12 {d : Nat} {V : Nat → List (Nat × Value) → List Value → MH → Prop} {r : Int32} {hz : MH} (hd : 7 ≤ d) (C : mm_C d yX11_firstLost cX11_firstLost 4 (some .int) (.inr (some (.int r))) hz V) : ∀ (n : Nat) (l0 : Option Nat) (l1 : Int32) (l2 : Int32) (h : MH), F_X11_firstLost_12 n l0 l1 l2 h = some (r, hz) → V 12 [(0, va_rf l0), (1, .int l1), (2, .int l2)] [] h := by
  intro n
  induction n with
  | zero => intro l0 l1 l2 h hK; cases hK
  | succ n ih =>
    intro l0 l1 l2 h hK
    replace hK : ((gR h l0 11 5).bind fun v14 => mm_b2 (cV h v14 0 (F_X0_calls v14 h)) fun v17 h17 => if v17 ≤ l2 then (some (l1, h17)) else ((gR h17 l0 11 5).bind fun v24 => mm_b2 (cV h17 v24 0 (F_X0_isToCome v24 l2 h17)) fun v28 h28 => if v28 = 0 then (F_X11_firstLost_51 (F_X11_firstLost_12 n) l0 l1 l2 h28) else ((gR h28 l0 11 7).bind fun v35 => mm_b2 (cV h28 v35 0 (F_X0_fact v35 l2 (4 : Int32) h28)) fun v40 h40 => if v40 = (3 : Int32) then (F_X11_firstLost_52 (F_X11_firstLost_12 n) l0 l1 l2 (1 : Int32) h40) else (F_X11_firstLost_51 (F_X11_firstLost_12 n) l0 l1 l2 h40)))) = some (r, hz) := hK
    refine mm_iload_n C (pc := 12) 2 dX11_firstLost_12 rfl ?_
    refine mm_aload_n C (pc := 13) 0 dX11_firstLost_13 rfl ?_
    replace hK := mm_bd hK; obtain ⟨v14, e14, hK⟩ := hK
    refine mm_getr C (pc := 14) (k := 5) inGX11 rfl (by decide) wd_850 dX11_firstLost_14 e14 ?_
    replace hK := mm_b2s hK; obtain ⟨v17, h17, e17, hK⟩ := hK
    obtain ⟨o17, e17⟩ := cV_some e17
    refine mm_callV C (pc := 17) (d1 := 1) (As := []) (st := [.int l2]) (vk := (some (.int v17))) ((S_X0_calls (by omega)) e17) tT_X0_calls o17 (Or.inr ⟨_, rfl, rfl⟩) wd_1075 wd_919 wd_920 (by omega) (by decide) rfl (by simp [mm_crf, mm_cti, mm_ctl]) rfl dX11_firstLost_17 ?_
    show V _ _ (.int v17 :: _) _
    refine mm_icmp_ge C (pc := 20) (tgt := 91) dX11_firstLost_20 (by decide) (fun hc => ?_) (fun hc => ?_)
    · replace hK := mm_ip hc hK
      refine mm_iload_n C (pc := 91) 1 dX11_firstLost_91 rfl ?_
      cases hK
      exact mm_iret C (pc := 92) rfl dX11_firstLost_92 rfl rfl
    · replace hK := mm_in hc hK
      refine mm_aload_n C (pc := 23) 0 dX11_firstLost_23 rfl ?_
      replace hK := mm_bd hK; obtain ⟨v24, e24, hK⟩ := hK
      refine mm_getr C (pc := 24) (k := 5) inGX11 rfl (by decide) wd_850 dX11_firstLost_24 e24 ?_
      refine mm_iload_n C (pc := 27) 2 dX11_firstLost_27 rfl ?_
      replace hK := mm_b2s hK; obtain ⟨v28, h28, e28, hK⟩ := hK
      obtain ⟨o28, e28⟩ := cV_some e28
      refine mm_callV C (pc := 28) (d1 := 2) (As := [.int l2]) (st := []) (vk := (some (.int v28))) ((S_X0_isToCome (by omega)) e28) tT_X0_isToCome o28 (Or.inr ⟨_, rfl, rfl⟩) wd_1076 wd_991 wd_992 (by omega) (by decide) rfl (by simp [mm_crf, mm_cti, mm_ctl]) rfl dX11_firstLost_28 ?_
      show V _ _ (.int v28 :: _) _
      refine mm_if_eq C (pc := 31) (tgt := 51) dX11_firstLost_31 (by decide) (fun hc => ?_) (fun hc => ?_)
      · replace hK := mm_ip hc hK
        exact w_X11_firstLost_51 hd C (fun z0 z1 z2 z3 hK => ih z0 z1 z2 z3 hK) _ _ _ _ hK
      · replace hK := mm_in hc hK
        refine mm_aload_n C (pc := 34) 0 dX11_firstLost_34 rfl ?_
        replace hK := mm_bd hK; obtain ⟨v35, e35, hK⟩ := hK
        refine mm_getr C (pc := 35) (k := 7) inGX11 rfl (by decide) wd_852 dX11_firstLost_35 e35 ?_
        refine mm_iload_n C (pc := 38) 2 dX11_firstLost_38 rfl ?_
        refine mm_iconst C (pc := 39) (v := (4 : Int32)) dX11_firstLost_39 (by decide) ?_
        replace hK := mm_b2s hK; obtain ⟨v40, h40, e40, hK⟩ := hK
        obtain ⟨o40, e40⟩ := cV_some e40
        refine mm_callV C (pc := 40) (d1 := 1) (As := [.int l2, .int (4 : Int32)]) (st := []) (vk := (some (.int v40))) ((S_X0_fact (by omega)) e40) tT_X0_fact o40 (Or.inr ⟨_, rfl, rfl⟩) wd_1077 wd_961 wd_962 (by omega) (by decide) rfl (by simp [mm_crf, mm_cti, mm_ctl]) rfl dX11_firstLost_40 ?_
        show V _ _ (.int v40 :: _) _
        refine mm_iconst C (pc := 43) (v := (3 : Int32)) dX11_firstLost_43 (by decide) ?_
        refine mm_icmp_ne C (pc := 44) (tgt := 51) dX11_firstLost_44 (by decide) (fun hc => ?_) (fun hc => ?_)
        · replace hK := mm_in hc hK
          exact w_X11_firstLost_51 hd C (fun z0 z1 z2 z3 hK => ih z0 z1 z2 z3 hK) _ _ _ _ hK
        · replace hK := mm_ip hc hK
          refine mm_iconst C (pc := 47) (v := (1 : Int32)) dX11_firstLost_47 (by decide) ?_
          refine mm_goto C (pc := 48) (tgt := 52) dX11_firstLost_48 (by decide) ?_
          exact w_X11_firstLost_52 hd C (fun z0 z1 z2 z3 hK => ih z0 z1 z2 z3 hK) _ _ _ _ _ hK
def F_X11_firstLost (a0 : Option Nat) (h : MH) : Option (Int32 × MH) := mm_b2 (cV h a0 11 (F_X11_foresee a0 (1200 : Int32) h)) fun v4 h4 => F_X11_firstLost_12 mm_N a0 ((-1) : Int32) (0 : Int32) h4
set_option maxRecDepth 20000 in
set_option maxHeartbeats 4000000 in
theorem S_X11_firstLost {d : Nat} (hd : 7 ≤ d) {a0 : Option Nat} {h : MH} {r : Int32} {hz : MH} (hK : F_X11_firstLost a0 h = some (r, hz)) : mm_M yX11_firstLost cX11_firstLost 4 (some .int) d [va_rf a0] h (.inr (some (.int r))) hz := by
  refine mm_ofV (by decide +kernel) (by simp [lg_sl, mm_crf, mm_cti, mm_ctl]) (fun V C => ?_)
  rw [show lv_args 0 [va_rf a0] = [(0, va_rf a0)] by simp [lv_args, mm_crf, mm_cti, mm_ctl]]
  unfold F_X11_firstLost at hK
  refine mm_aload_n C (pc := 0) 0 dX11_firstLost_0 rfl ?_
  refine mm_sipush C (pc := 1) (v := (1200 : Int32)) dX11_firstLost_1 (by decide) ?_
  replace hK := mm_b2s hK; obtain ⟨v4, h4, e4, hK⟩ := hK
  obtain ⟨o4, e4⟩ := cV_some e4
  refine mm_callV C (pc := 4) (d1 := 6) (As := [.int (1200 : Int32)]) (st := []) (vk := (some (.int v4))) ((S_X11_foresee (by omega)) e4) tT_X11_foresee o4 (Or.inr ⟨_, rfl, rfl⟩) wd_972 wd_974 wd_7 (by omega) (by decide) rfl (by simp [mm_crf, mm_cti, mm_ctl]) rfl dX11_firstLost_4 ?_
  show V _ _ (.int v4 :: _) _
  refine mm_pop C (pc := 7) dX11_firstLost_7 rfl ?_
  refine mm_iconst C (pc := 8) (v := ((-1) : Int32)) dX11_firstLost_8 (by decide) ?_
  refine mm_istore_n C (pc := 9) (i := 1) (lv' := [(1, .int ((-1) : Int32)), (0, va_rf a0)]) dX11_firstLost_9 rfl (by decide) (by simp [mm_crf]) ?_
  refine mm_iconst C (pc := 10) (v := (0 : Int32)) dX11_firstLost_10 (by decide) ?_
  refine mm_istore_n C (pc := 11) (i := 2) (lv' := [(2, .int (0 : Int32)), (1, .int ((-1) : Int32)), (0, va_rf a0)]) dX11_firstLost_11 rfl (by decide) rfl ?_
  refine mm_sub C [2, 1, 0] rfl ?_
  exact w_X11_firstLost_12 hd C _ _ _ _ _ hK
def F_X0_joined_45 (s0 : Int32) (h : MH) : Option (Int32 × MH) := rZ s0 h
set_option maxRecDepth 20000 in
set_option maxHeartbeats 4000000 in
theorem w_X0_joined_45 {d : Nat} {V : Nat → List (Nat × Value) → List Value → MH → Prop} {r : Int32} {hz : MH} (hd : 2 ≤ d) (C : mm_C d yX0_joined cX0_joined 6 (some .boolean) (.inr (some (.int r))) hz V) (s0 : Int32) (h : MH) (hK : F_X0_joined_45 s0 h = some (r, hz)) : V 45 [] [.int s0] h := by
  unfold F_X0_joined_45 at hK
  replace hK := rZ_some hK; obtain ⟨hv45, hK⟩ := hK
  cases hK
  exact mm_zret C (pc := 45) rfl (mm_nrZ hv45) dX0_joined_45 rfl rfl
def F_X0_joined_44 (h : MH) : Option (Int32 × MH) := F_X0_joined_45 (0 : Int32) h
set_option maxRecDepth 20000 in
set_option maxHeartbeats 4000000 in
theorem w_X0_joined_44 {d : Nat} {V : Nat → List (Nat × Value) → List Value → MH → Prop} {r : Int32} {hz : MH} (hd : 2 ≤ d) (C : mm_C d yX0_joined cX0_joined 6 (some .boolean) (.inr (some (.int r))) hz V) (h : MH) (hK : F_X0_joined_44  h = some (r, hz)) : V 44 [] [] h := by
  unfold F_X0_joined_44 at hK
  refine mm_iconst C (pc := 44) (v := (0 : Int32)) dX0_joined_44 (by decide) ?_
  exact w_X0_joined_45 hd C _ _ hK
def F_X0_joined_40 (h : MH) : Option (Int32 × MH) := F_X0_joined_45 (1 : Int32) h
set_option maxRecDepth 20000 in
set_option maxHeartbeats 4000000 in
theorem w_X0_joined_40 {d : Nat} {V : Nat → List (Nat × Value) → List Value → MH → Prop} {r : Int32} {hz : MH} (hd : 2 ≤ d) (C : mm_C d yX0_joined cX0_joined 6 (some .boolean) (.inr (some (.int r))) hz V) (h : MH) (hK : F_X0_joined_40  h = some (r, hz)) : V 40 [] [] h := by
  unfold F_X0_joined_40 at hK
  refine mm_iconst C (pc := 40) (v := (1 : Int32)) dX0_joined_40 (by decide) ?_
  refine mm_goto C (pc := 41) (tgt := 45) dX0_joined_41 (by decide) ?_
  exact w_X0_joined_45 hd C _ _ hK
def F_X0_joined_28 (l2 : Int32) (l3 : Int32) (l4 : Int32) (l5 : Int32) (h : MH) : Option (Int32 × MH) := if l4 = l3 then (if l5 = l2 then (F_X0_joined_40 h) else (F_X0_joined_44 h)) else (F_X0_joined_44 h)
set_option maxRecDepth 20000 in
set_option maxHeartbeats 4000000 in
theorem w_X0_joined_28 {d : Nat} {V : Nat → List (Nat × Value) → List Value → MH → Prop} {r : Int32} {hz : MH} (hd : 2 ≤ d) (C : mm_C d yX0_joined cX0_joined 6 (some .boolean) (.inr (some (.int r))) hz V) (l2 : Int32) (l3 : Int32) (l4 : Int32) (l5 : Int32) (h : MH) (hK : F_X0_joined_28 l2 l3 l4 l5 h = some (r, hz)) : V 28 [(2, .int l2), (3, .int l3), (4, .int l4), (5, .int l5)] [] h := by
  unfold F_X0_joined_28 at hK
  refine mm_iload C (pc := 28) 2 dX0_joined_28 rfl ?_
  refine mm_iload_n C (pc := 30) 1 dX0_joined_30 rfl ?_
  refine mm_icmp_ne C (pc := 31) (tgt := 44) dX0_joined_31 (by decide) (fun hc => ?_) (fun hc => ?_)
  · replace hK := mm_in hc hK
    refine mm_sub C [] rfl ?_
    exact w_X0_joined_44 hd C _ hK
  · replace hK := mm_ip hc hK
    refine mm_iload C (pc := 34) 3 dX0_joined_34 rfl ?_
    refine mm_iload_n C (pc := 36) 0 dX0_joined_36 rfl ?_
    refine mm_icmp_ne C (pc := 37) (tgt := 44) dX0_joined_37 (by decide) (fun hc => ?_) (fun hc => ?_)
    · replace hK := mm_in hc hK
      refine mm_sub C [] rfl ?_
      exact w_X0_joined_44 hd C _ hK
    · replace hK := mm_ip hc hK
      refine mm_sub C [] rfl ?_
      exact w_X0_joined_40 hd C _ hK
def F_X0_joined (a0 : Option Nat) (a1 : Int32) (a2 : Int32) (a3 : Int32) (h : MH) : Option (Int32 × MH) := mm_b2 (cV h a0 0 (F_X0_fact a0 a1 (0 : Int32) h)) fun v3 h3 => mm_b2 (cV h3 a0 0 (F_X0_fact a0 a1 (5 : Int32) h3)) fun v11 h11 => if v3 = a2 then (if v11 = a3 then (F_X0_joined_40 h11) else (F_X0_joined_28 a2 a3 v3 v11 h11)) else (F_X0_joined_28 a2 a3 v3 v11 h11)
set_option maxRecDepth 20000 in
set_option maxHeartbeats 4000000 in
theorem S_X0_joined {d : Nat} (hd : 2 ≤ d) {a0 : Option Nat} {a1 : Int32} {a2 : Int32} {a3 : Int32} {h : MH} {r : Int32} {hz : MH} (hK : F_X0_joined a0 a1 a2 a3 h = some (r, hz)) : mm_M yX0_joined cX0_joined 6 (some .boolean) d [va_rf a0, .int a1, .int a2, .int a3] h (.inr (some (.int r))) hz := by
  refine mm_ofV (by decide +kernel) (by simp [lg_sl, mm_crf, mm_cti, mm_ctl]) (fun V C => ?_)
  rw [show lv_args 0 [va_rf a0, .int a1, .int a2, .int a3] = [(0, va_rf a0), (1, .int a1), (2, .int a2), (3, .int a3)] by simp [lv_args, mm_crf, mm_cti, mm_ctl]]
  unfold F_X0_joined at hK
  refine mm_aload_n C (pc := 0) 0 dX0_joined_0 rfl ?_
  refine mm_iload_n C (pc := 1) 1 dX0_joined_1 rfl ?_
  refine mm_iconst C (pc := 2) (v := (0 : Int32)) dX0_joined_2 (by decide) ?_
  replace hK := mm_b2s hK; obtain ⟨v3, h3, e3, hK⟩ := hK
  obtain ⟨o3, e3⟩ := cV_some e3
  refine mm_callV C (pc := 3) (d1 := 1) (As := [.int a1, .int (0 : Int32)]) (st := []) (vk := (some (.int v3))) ((S_X0_fact (by omega)) e3) tT_X0_fact o3 (Or.inr ⟨_, rfl, rfl⟩) wd_960 wd_961 wd_962 (by omega) (by decide) rfl (by simp [mm_crf, mm_cti, mm_ctl]) rfl dX0_joined_3 ?_
  show V _ _ (.int v3 :: _) _
  refine mm_istore C (pc := 6) (i := 4) (lv' := [(4, .int v3), (0, va_rf a0), (1, .int a1), (2, .int a2), (3, .int a3)]) dX0_joined_6 (by decide) rfl ?_
  refine mm_aload_n C (pc := 8) 1 dX0_joined_8 rfl ?_
  refine mm_iload_n C (pc := 9) 2 dX0_joined_9 rfl ?_
  refine mm_iconst C (pc := 10) (v := (5 : Int32)) dX0_joined_10 (by decide) ?_
  replace hK := mm_b2s hK; obtain ⟨v11, h11, e11, hK⟩ := hK
  obtain ⟨o11, e11⟩ := cV_some e11
  refine mm_callV C (pc := 11) (d1 := 1) (As := [.int a1, .int (5 : Int32)]) (st := []) (vk := (some (.int v11))) ((S_X0_fact (by omega)) e11) tT_X0_fact o11 (Or.inr ⟨_, rfl, rfl⟩) wd_960 wd_961 wd_962 (by omega) (by decide) rfl (by simp [mm_crf, mm_cti, mm_ctl]) rfl dX0_joined_11 ?_
  show V _ _ (.int v11 :: _) _
  refine mm_istore C (pc := 14) (i := 5) (lv' := [(5, .int v11), (4, .int v3), (0, va_rf a0), (1, .int a1), (2, .int a2), (3, .int a3)]) dX0_joined_14 (by decide) rfl ?_
  refine mm_iload C (pc := 16) 1 dX0_joined_16 rfl ?_
  refine mm_iload_n C (pc := 18) 4 dX0_joined_18 rfl ?_
  refine mm_icmp_ne C (pc := 19) (tgt := 28) dX0_joined_19 (by decide) (fun hc => ?_) (fun hc => ?_)
  · replace hK := mm_in hc hK
    refine mm_sub C [4, 5, 1, 0] rfl ?_
    exact w_X0_joined_28 hd C _ _ _ _ _ hK
  · replace hK := mm_ip hc hK
    refine mm_iload C (pc := 22) 0 dX0_joined_22 rfl ?_
    refine mm_iload_n C (pc := 24) 5 dX0_joined_24 rfl ?_
    refine mm_icmp_eq C (pc := 25) (tgt := 40) dX0_joined_25 (by decide) (fun hc => ?_) (fun hc => ?_)
    · replace hK := mm_ip hc hK
      refine mm_sub C [] rfl ?_
      exact w_X0_joined_40 hd C _ hK
    · replace hK := mm_in hc hK
      refine mm_sub C [4, 5, 1, 0] rfl ?_
      exact w_X0_joined_28 hd C _ _ _ _ _ hK
theorem wd_1642 : Cond.code yX0_joined cX0_joined 6 (some .boolean) ∈ lw_good := mm_wd 1642 (by decide +kernel) (by decide +kernel)
theorem tT_X0_joined : mm_T yX0_joined cX0_joined 6 (some .boolean) 3 := ⟨wd_1642, wd_150, by decide +kernel, by decide +kernel, by decide +kernel, by decide +kernel⟩
theorem wd_1639 : Cond.methodLink RX11 269 yX0_joined ∈ lw_good := mm_wd 1639 (by decide +kernel) (by decide +kernel)
theorem wd_1640 : Cond.instanceMethod yX0_joined ∈ lw_good := mm_wd 1640 (by decide +kernel) (by decide +kernel)
theorem wd_1641 : Cond.selects RX0 yX0_joined yX0_joined ∈ lw_good := mm_wd 1641 (by decide +kernel) (by decide +kernel)
theorem wd_1643 : Cond.methodLink RX11 273 yJ9_min_7cf53 ∈ lw_good := mm_wd 1643 (by decide +kernel) (by decide +kernel)
def F_X11_together_128 (k53 : Option Nat → Int32 → Int32 → Int32 → Int32 → MH → Option ((String ⊕ Int32) × MH)) (l0 : Option Nat) (l1 : Int32) (l2 : Int32) (l3 : Int32) (l4 : Int32) (h : MH) : Option ((String ⊕ Int32) × MH) := k53 l0 l1 l2 l3 (l4 + (1 : Int32)) h
set_option maxRecDepth 20000 in
set_option maxHeartbeats 4000000 in
theorem w_X11_together_128 {d : Nat} {V : Nat → List (Nat × Value) → List Value → MH → Prop} {r : String ⊕ Int32} {hz : MH} {k53 : Option Nat → Int32 → Int32 → Int32 → Int32 → MH → Option ((String ⊕ Int32) × MH)} (hd : 7 ≤ d) (C : mm_C d yX11_together cX11_together 6 (some .int) (mm_oi r) hz V) (q53 : ∀ (x0 : Option Nat) (x1 : Int32) (x2 : Int32) (x3 : Int32) (x4 : Int32) (h : MH), k53 x0 x1 x2 x3 x4 h = some (r, hz) → V 53 [(0, va_rf x0), (1, .int x1), (2, .int x2), (3, .int x3), (4, .int x4)] [] h) (l0 : Option Nat) (l1 : Int32) (l2 : Int32) (l3 : Int32) (l4 : Int32) (h : MH) (hK : F_X11_together_128 k53 l0 l1 l2 l3 l4 h = some (r, hz)) : V 128 [(0, va_rf l0), (1, .int l1), (2, .int l2), (3, .int l3), (4, .int l4)] [] h := by
  unfold F_X11_together_128 at hK
  refine mm_iinc C (pc := 128) (v := (l4 + (1 : Int32))) (lv' := [(4, .int (l4 + (1 : Int32))), (0, va_rf l0), (1, .int l1), (2, .int l2), (3, .int l3)]) 4 dX11_together_128 rfl rfl (by decide) rfl ?_
  refine mm_goto C (pc := 131) (tgt := 53) dX11_together_131 (by decide) ?_
  refine mm_sub C [1, 2, 3, 4, 0] rfl ?_
  exact q53 _ _ _ _ _ _ hK
def F_X11_together_127 (k53 : Option Nat → Int32 → Int32 → Int32 → Int32 → MH → Option ((String ⊕ Int32) × MH)) (l0 : Option Nat) (l1 : Int32) (l2 : Int32) (l4 : Int32) (s0 : Int32) (h : MH) : Option ((String ⊕ Int32) × MH) := F_X11_together_128 k53 l0 l1 l2 s0 l4 h
set_option maxRecDepth 20000 in
set_option maxHeartbeats 4000000 in
theorem w_X11_together_127 {d : Nat} {V : Nat → List (Nat × Value) → List Value → MH → Prop} {r : String ⊕ Int32} {hz : MH} {k53 : Option Nat → Int32 → Int32 → Int32 → Int32 → MH → Option ((String ⊕ Int32) × MH)} (hd : 7 ≤ d) (C : mm_C d yX11_together cX11_together 6 (some .int) (mm_oi r) hz V) (q53 : ∀ (x0 : Option Nat) (x1 : Int32) (x2 : Int32) (x3 : Int32) (x4 : Int32) (h : MH), k53 x0 x1 x2 x3 x4 h = some (r, hz) → V 53 [(0, va_rf x0), (1, .int x1), (2, .int x2), (3, .int x3), (4, .int x4)] [] h) (l0 : Option Nat) (l1 : Int32) (l2 : Int32) (l4 : Int32) (s0 : Int32) (h : MH) (hK : F_X11_together_127 k53 l0 l1 l2 l4 s0 h = some (r, hz)) : V 127 [(0, va_rf l0), (1, .int l1), (2, .int l2), (4, .int l4)] [.int s0] h := by
  unfold F_X11_together_127 at hK
  refine mm_istore_n C (pc := 127) (i := 3) (lv' := [(3, .int s0), (0, va_rf l0), (1, .int l1), (2, .int l2), (4, .int l4)]) dX11_together_127 rfl (by decide) rfl ?_
  refine mm_sub C [1, 2, 3, 0, 4] rfl ?_
  exact w_X11_together_128 hd C (fun z0 z1 z2 z3 z4 z5 hK => q53 z0 z1 z2 z3 z4 z5 hK) _ _ _ _ _ _ hK
def F_X11_together_53 : Nat → Option Nat → Int32 → Int32 → Int32 → Int32 → MH → Option ((String ⊕ Int32) × MH)
  | 0 => fun _ _ _ _ _ _ => none
  | n + 1 => fun l0 l1 l2 l3 l4 h => (gR h l0 11 5).bind fun v56 => mm_b2 (cV h v56 0 (F_X0_calls v56 h)) fun v59 h59 => if v59 ≤ l4 then (some (.inr l3, h59)) else ((gR h59 l0 11 5).bind fun v66 => mm_b2 (cV h59 v66 0 (F_X0_isToCome v66 l4 h59)) fun v71 h71 => if v71 = 0 then (F_X11_together_128 (F_X11_together_53 n) l0 l1 l2 l3 l4 h71) else ((gR h71 l0 11 7).bind fun v78 => mm_b2 (cV h71 v78 0 (F_X0_joined v78 l4 l1 l2 h71)) fun v85 h85 => if v85 = 0 then (F_X11_together_128 (F_X11_together_53 n) l0 l1 l2 l3 l4 h85) else ((gR h85 l0 11 5).bind fun v92 => mm_b2 (cV h85 v92 0 (F_X0_fact v92 l4 (2 : Int32) h85)) fun v98 h98 => (gR h98 l0 11 5).bind fun v102 => mm_b2 (cV h98 v102 0 (F_X0_minute v102 h98)) fun v105 h105 => if l3 = ((-1) : Int32) then (F_X11_together_127 (F_X11_together_53 n) l0 l1 l2 l4 (v98 - v105) h105) else (F_X11_together_127 (F_X11_together_53 n) l0 l1 l2 l4 (mnI l3 (v98 - v105)) h105))))
set_option maxRecDepth 20000 in
set_option maxHeartbeats 4000000 in
theorem w_X11_together_53 {d : Nat} {V : Nat → List (Nat × Value) → List Value → MH → Prop} {r : String ⊕ Int32} {hz : MH} (hd : 7 ≤ d) (C : mm_C d yX11_together cX11_together 6 (some .int) (mm_oi r) hz V) : ∀ (n : Nat) (l0 : Option Nat) (l1 : Int32) (l2 : Int32) (l3 : Int32) (l4 : Int32) (h : MH), F_X11_together_53 n l0 l1 l2 l3 l4 h = some (r, hz) → V 53 [(0, va_rf l0), (1, .int l1), (2, .int l2), (3, .int l3), (4, .int l4)] [] h := by
  intro n
  induction n with
  | zero => intro l0 l1 l2 l3 l4 h hK; cases hK
  | succ n ih =>
    intro l0 l1 l2 l3 l4 h hK
    replace hK : ((gR h l0 11 5).bind fun v56 => mm_b2 (cV h v56 0 (F_X0_calls v56 h)) fun v59 h59 => if v59 ≤ l4 then (some (.inr l3, h59)) else ((gR h59 l0 11 5).bind fun v66 => mm_b2 (cV h59 v66 0 (F_X0_isToCome v66 l4 h59)) fun v71 h71 => if v71 = 0 then (F_X11_together_128 (F_X11_together_53 n) l0 l1 l2 l3 l4 h71) else ((gR h71 l0 11 7).bind fun v78 => mm_b2 (cV h71 v78 0 (F_X0_joined v78 l4 l1 l2 h71)) fun v85 h85 => if v85 = 0 then (F_X11_together_128 (F_X11_together_53 n) l0 l1 l2 l3 l4 h85) else ((gR h85 l0 11 5).bind fun v92 => mm_b2 (cV h85 v92 0 (F_X0_fact v92 l4 (2 : Int32) h85)) fun v98 h98 => (gR h98 l0 11 5).bind fun v102 => mm_b2 (cV h98 v102 0 (F_X0_minute v102 h98)) fun v105 h105 => if l3 = ((-1) : Int32) then (F_X11_together_127 (F_X11_together_53 n) l0 l1 l2 l4 (v98 - v105) h105) else (F_X11_together_127 (F_X11_together_53 n) l0 l1 l2 l4 (mnI l3 (v98 - v105)) h105))))) = some (r, hz) := hK
    refine mm_iload C (pc := 53) 4 dX11_together_53 rfl ?_
    refine mm_aload_n C (pc := 55) 0 dX11_together_55 rfl ?_
    replace hK := mm_bd hK; obtain ⟨v56, e56, hK⟩ := hK
    refine mm_getr C (pc := 56) (k := 5) inGX11 rfl (by decide) wd_850 dX11_together_56 e56 ?_
    replace hK := mm_b2s hK; obtain ⟨v59, h59, e59, hK⟩ := hK
    obtain ⟨o59, e59⟩ := cV_some e59
    refine mm_callV C (pc := 59) (d1 := 1) (As := []) (st := [.int l4]) (vk := (some (.int v59))) ((S_X0_calls (by omega)) e59) tT_X0_calls o59 (Or.inr ⟨_, rfl, rfl⟩) wd_1075 wd_919 wd_920 (by omega) (by decide) rfl (by simp [mm_crf, mm_cti, mm_ctl]) rfl dX11_together_59 ?_
    show V _ _ (.int v59 :: _) _
    refine mm_icmp_ge C (pc := 62) (tgt := 134) dX11_together_62 (by decide) (fun hc => ?_) (fun hc => ?_)
    · replace hK := mm_ip hc hK
      refine mm_iload_n C (pc := 134) 3 dX11_together_134 rfl ?_
      cases hK
      exact mm_iret C (pc := 135) rfl dX11_together_135 rfl rfl
    · replace hK := mm_in hc hK
      refine mm_aload_n C (pc := 65) 0 dX11_together_65 rfl ?_
      replace hK := mm_bd hK; obtain ⟨v66, e66, hK⟩ := hK
      refine mm_getr C (pc := 66) (k := 5) inGX11 rfl (by decide) wd_850 dX11_together_66 e66 ?_
      refine mm_iload C (pc := 69) 4 dX11_together_69 rfl ?_
      replace hK := mm_b2s hK; obtain ⟨v71, h71, e71, hK⟩ := hK
      obtain ⟨o71, e71⟩ := cV_some e71
      refine mm_callV C (pc := 71) (d1 := 2) (As := [.int l4]) (st := []) (vk := (some (.int v71))) ((S_X0_isToCome (by omega)) e71) tT_X0_isToCome o71 (Or.inr ⟨_, rfl, rfl⟩) wd_1076 wd_991 wd_992 (by omega) (by decide) rfl (by simp [mm_crf, mm_cti, mm_ctl]) rfl dX11_together_71 ?_
      show V _ _ (.int v71 :: _) _
      refine mm_if_eq C (pc := 74) (tgt := 128) dX11_together_74 (by decide) (fun hc => ?_) (fun hc => ?_)
      · replace hK := mm_ip hc hK
        exact w_X11_together_128 hd C (fun z0 z1 z2 z3 z4 z5 hK => ih z0 z1 z2 z3 z4 z5 hK) _ _ _ _ _ _ hK
      · replace hK := mm_in hc hK
        refine mm_aload_n C (pc := 77) 0 dX11_together_77 rfl ?_
        replace hK := mm_bd hK; obtain ⟨v78, e78, hK⟩ := hK
        refine mm_getr C (pc := 78) (k := 7) inGX11 rfl (by decide) wd_852 dX11_together_78 e78 ?_
        refine mm_iload C (pc := 81) 4 dX11_together_81 rfl ?_
        refine mm_iload_n C (pc := 83) 1 dX11_together_83 rfl ?_
        refine mm_iload_n C (pc := 84) 2 dX11_together_84 rfl ?_
        replace hK := mm_b2s hK; obtain ⟨v85, h85, e85, hK⟩ := hK
        obtain ⟨o85, e85⟩ := cV_some e85
        refine mm_callV C (pc := 85) (d1 := 2) (As := [.int l4, .int l1, .int l2]) (st := []) (vk := (some (.int v85))) ((S_X0_joined (by omega)) e85) tT_X0_joined o85 (Or.inr ⟨_, rfl, rfl⟩) wd_1639 wd_1640 wd_1641 (by omega) (by decide) rfl (by simp [mm_crf, mm_cti, mm_ctl]) rfl dX11_together_85 ?_
        show V _ _ (.int v85 :: _) _
        refine mm_if_eq C (pc := 88) (tgt := 128) dX11_together_88 (by decide) (fun hc => ?_) (fun hc => ?_)
        · replace hK := mm_ip hc hK
          exact w_X11_together_128 hd C (fun z0 z1 z2 z3 z4 z5 hK => ih z0 z1 z2 z3 z4 z5 hK) _ _ _ _ _ _ hK
        · replace hK := mm_in hc hK
          refine mm_aload_n C (pc := 91) 0 dX11_together_91 rfl ?_
          replace hK := mm_bd hK; obtain ⟨v92, e92, hK⟩ := hK
          refine mm_getr C (pc := 92) (k := 5) inGX11 rfl (by decide) wd_850 dX11_together_92 e92 ?_
          refine mm_iload C (pc := 95) 4 dX11_together_95 rfl ?_
          refine mm_iconst C (pc := 97) (v := (2 : Int32)) dX11_together_97 (by decide) ?_
          replace hK := mm_b2s hK; obtain ⟨v98, h98, e98, hK⟩ := hK
          obtain ⟨o98, e98⟩ := cV_some e98
          refine mm_callV C (pc := 98) (d1 := 1) (As := [.int l4, .int (2 : Int32)]) (st := []) (vk := (some (.int v98))) ((S_X0_fact (by omega)) e98) tT_X0_fact o98 (Or.inr ⟨_, rfl, rfl⟩) wd_1077 wd_961 wd_962 (by omega) (by decide) rfl (by simp [mm_crf, mm_cti, mm_ctl]) rfl dX11_together_98 ?_
          show V _ _ (.int v98 :: _) _
          refine mm_aload_n C (pc := 101) 0 dX11_together_101 rfl ?_
          replace hK := mm_bd hK; obtain ⟨v102, e102, hK⟩ := hK
          refine mm_getr C (pc := 102) (k := 5) inGX11 rfl (by decide) wd_850 dX11_together_102 e102 ?_
          replace hK := mm_b2s hK; obtain ⟨v105, h105, e105, hK⟩ := hK
          obtain ⟨o105, e105⟩ := cV_some e105
          refine mm_callV C (pc := 105) (d1 := 1) (As := []) (st := [.int v98]) (vk := (some (.int v105))) ((S_X0_minute (by omega)) e105) tT_X0_minute o105 (Or.inr ⟨_, rfl, rfl⟩) wd_1150 wd_937 wd_938 (by omega) (by decide) rfl (by simp [mm_crf, mm_cti, mm_ctl]) rfl dX11_together_105 ?_
          show V _ _ (.int v105 :: _) _
          refine mm_isub C (pc := 108) dX11_together_108 ?_
          refine mm_istore C (pc := 109) (i := 5) (lv' := [(5, .int (v98 - v105)), (0, va_rf l0), (1, .int l1), (2, .int l2), (3, .int l3), (4, .int l4)]) dX11_together_109 (by decide) rfl ?_
          refine mm_iload_n C (pc := 111) 4 dX11_together_111 rfl ?_
          refine mm_iconst C (pc := 112) (v := ((-1) : Int32)) dX11_together_112 (by decide) ?_
          refine mm_icmp_ne C (pc := 113) (tgt := 121) dX11_together_113 (by decide) (fun hc => ?_) (fun hc => ?_)
          · replace hK := mm_in hc hK
            refine mm_iload_n C (pc := 121) 4 dX11_together_121 rfl ?_
            refine mm_iload C (pc := 122) 0 dX11_together_122 rfl ?_
            refine mm_mmin C (pc := 124) wd_1643 wd_409 wd_152 wd_410 (by omega) (by simp [mm_crf, mm_cti, mm_ctl]) dX11_together_124 ?_
            refine mm_sub C [1, 2, 3, 5] rfl ?_
            exact w_X11_together_127 hd C (fun z0 z1 z2 z3 z4 z5 hK => ih z0 z1 z2 z3 z4 z5 hK) _ _ _ _ _ _ hK
          · replace hK := mm_ip hc hK
            refine mm_iload C (pc := 116) 0 dX11_together_116 rfl ?_
            refine mm_goto C (pc := 118) (tgt := 127) dX11_together_118 (by decide) ?_
            refine mm_sub C [1, 2, 3, 5] rfl ?_
            exact w_X11_together_127 hd C (fun z0 z1 z2 z3 z4 z5 hK => ih z0 z1 z2 z3 z4 z5 hK) _ _ _ _ _ _ hK
def F_X11_together (a0 : Option Nat) (a1 : Int32) (a2 : Int32) (h : MH) : Option ((String ⊕ Int32) × MH) := mm_b3 (cV h a0 11 (F_X11_needLine a0 a1 h)) fun _ h2 => mm_b3 (cV h2 a0 11 (F_X11_needLine a0 a2 h2)) fun _ h7 => if a1 = a2 then ((tH h7).bind fun h15 => some (.inl "java/lang/IllegalArgumentException", h15)) else ((gR h7 a0 11 5).bind fun v27 => mm_b2 (cV h7 v27 0 (F_X0_speaksWith v27 a1 h7)) fun v31 h31 => if v31 = a2 then (some (.inr (0 : Int32), h31)) else (mm_b2 (cV h31 a0 11 (F_X11_foresee a0 (1200 : Int32) h31)) fun v44 h44 => F_X11_together_53 mm_N a0 a1 a2 ((-1) : Int32) (0 : Int32) h44))
set_option maxRecDepth 20000 in
set_option maxHeartbeats 4000000 in
theorem S_X11_together {d : Nat} (hd : 7 ≤ d) {a0 : Option Nat} {a1 : Int32} {a2 : Int32} {h : MH} {r : String ⊕ Int32} {hz : MH} (hK : F_X11_together a0 a1 a2 h = some (r, hz)) : mm_M yX11_together cX11_together 6 (some .int) d [va_rf a0, .int a1, .int a2] h (mm_oi r) hz := by
  refine mm_ofV (by decide +kernel) (by simp [lg_sl, mm_crf, mm_cti, mm_ctl]) (fun V C => ?_)
  rw [show lv_args 0 [va_rf a0, .int a1, .int a2] = [(0, va_rf a0), (1, .int a1), (2, .int a2)] by simp [lv_args, mm_crf, mm_cti, mm_ctl]]
  unfold F_X11_together at hK
  refine mm_aload_n C (pc := 0) 0 dX11_together_0 rfl ?_
  refine mm_iload_n C (pc := 1) 1 dX11_together_1 rfl ?_
  replace hK := mm_b3s hK; rcases hK with ⟨E2, e2, rfl⟩ | ⟨v2, h2, e2, hK⟩
  · obtain ⟨o2, e2⟩ := cV_some e2
    exact mm_callVX C (pc := 2) (d1 := 6) (As := [.int a1]) (st := []) ((S_X11_needLine (by omega)) e2) tT_X11_needLine o2 (Or.inr ⟨_, rfl, rfl⟩) wd_1430 wd_1432 wd_38 (by omega) (by decide) rfl (by simp [mm_crf, mm_cti, mm_ctl]) rfl dX11_together_2 rfl rfl
  obtain ⟨o2, e2⟩ := cV_some e2
  refine mm_callV C (pc := 2) (d1 := 6) (As := [.int a1]) (st := []) (vk := none) ((S_X11_needLine (by omega)) e2) tT_X11_needLine o2 (Or.inr ⟨_, rfl, rfl⟩) wd_1430 wd_1432 wd_38 (by omega) (by decide) rfl (by simp [mm_crf, mm_cti, mm_ctl]) rfl dX11_together_2 ?_
  show V _ _ [] _
  refine mm_aload_n C (pc := 5) 0 dX11_together_5 rfl ?_
  refine mm_iload_n C (pc := 6) 2 dX11_together_6 rfl ?_
  replace hK := mm_b3s hK; rcases hK with ⟨E7, e7, rfl⟩ | ⟨v7, h7, e7, hK⟩
  · obtain ⟨o7, e7⟩ := cV_some e7
    exact mm_callVX C (pc := 7) (d1 := 6) (As := [.int a2]) (st := []) ((S_X11_needLine (by omega)) e7) tT_X11_needLine o7 (Or.inr ⟨_, rfl, rfl⟩) wd_1430 wd_1432 wd_38 (by omega) (by decide) rfl (by simp [mm_crf, mm_cti, mm_ctl]) rfl dX11_together_7 rfl rfl
  obtain ⟨o7, e7⟩ := cV_some e7
  refine mm_callV C (pc := 7) (d1 := 6) (As := [.int a2]) (st := []) (vk := none) ((S_X11_needLine (by omega)) e7) tT_X11_needLine o7 (Or.inr ⟨_, rfl, rfl⟩) wd_1430 wd_1432 wd_38 (by omega) (by decide) rfl (by simp [mm_crf, mm_cti, mm_ctl]) rfl dX11_together_7 ?_
  show V _ _ [] _
  refine mm_iload_n C (pc := 10) 1 dX11_together_10 rfl ?_
  refine mm_iload_n C (pc := 11) 2 dX11_together_11 rfl ?_
  refine mm_icmp_ne C (pc := 12) (tgt := 26) dX11_together_12 (by decide) (fun hc => ?_) (fun hc => ?_)
  · replace hK := mm_in hc hK
    refine mm_aload_n C (pc := 26) 0 dX11_together_26 rfl ?_
    replace hK := mm_bd hK; obtain ⟨v27, e27, hK⟩ := hK
    refine mm_getr C (pc := 27) (k := 5) inGX11 rfl (by decide) wd_850 dX11_together_27 e27 ?_
    refine mm_iload_n C (pc := 30) 1 dX11_together_30 rfl ?_
    replace hK := mm_b2s hK; obtain ⟨v31, h31, e31, hK⟩ := hK
    obtain ⟨o31, e31⟩ := cV_some e31
    refine mm_callV C (pc := 31) (d1 := 3) (As := [.int a1]) (st := []) (vk := (some (.int v31))) ((S_X0_speaksWith (by omega)) e31) tT_X0_speaksWith o31 (Or.inr ⟨_, rfl, rfl⟩) wd_1450 wd_1451 wd_1452 (by omega) (by decide) rfl (by simp [mm_crf, mm_cti, mm_ctl]) rfl dX11_together_31 ?_
    show V _ _ (.int v31 :: _) _
    refine mm_iload_n C (pc := 34) 2 dX11_together_34 rfl ?_
    refine mm_icmp_ne C (pc := 35) (tgt := 40) dX11_together_35 (by decide) (fun hc => ?_) (fun hc => ?_)
    · replace hK := mm_in hc hK
      refine mm_aload_n C (pc := 40) 0 dX11_together_40 rfl ?_
      refine mm_sipush C (pc := 41) (v := (1200 : Int32)) dX11_together_41 (by decide) ?_
      replace hK := mm_b2s hK; obtain ⟨v44, h44, e44, hK⟩ := hK
      obtain ⟨o44, e44⟩ := cV_some e44
      refine mm_callV C (pc := 44) (d1 := 6) (As := [.int (1200 : Int32)]) (st := []) (vk := (some (.int v44))) ((S_X11_foresee (by omega)) e44) tT_X11_foresee o44 (Or.inr ⟨_, rfl, rfl⟩) wd_972 wd_974 wd_7 (by omega) (by decide) rfl (by simp [mm_crf, mm_cti, mm_ctl]) rfl dX11_together_44 ?_
      show V _ _ (.int v44 :: _) _
      refine mm_pop C (pc := 47) dX11_together_47 rfl ?_
      refine mm_iconst C (pc := 48) (v := ((-1) : Int32)) dX11_together_48 (by decide) ?_
      refine mm_istore_n C (pc := 49) (i := 3) (lv' := [(3, .int ((-1) : Int32)), (0, va_rf a0), (1, .int a1), (2, .int a2)]) dX11_together_49 rfl (by decide) rfl ?_
      refine mm_iconst C (pc := 50) (v := (0 : Int32)) dX11_together_50 (by decide) ?_
      refine mm_istore C (pc := 51) (i := 4) (lv' := [(4, .int (0 : Int32)), (3, .int ((-1) : Int32)), (0, va_rf a0), (1, .int a1), (2, .int a2)]) dX11_together_51 (by decide) rfl ?_
      refine mm_sub C [2, 3, 4, 1, 0] rfl ?_
      exact w_X11_together_53 hd C _ _ _ _ _ _ _ hK
    · replace hK := mm_ip hc hK
      refine mm_iconst C (pc := 38) (v := (0 : Int32)) dX11_together_38 (by decide) ?_
      cases hK
      exact mm_iret C (pc := 39) rfl dX11_together_39 rfl rfl
  · replace hK := mm_ip hc hK
    replace hK := mm_bd hK; obtain ⟨h15, e15, hK⟩ := hK
    cases hK
    exact mm_throwW C (pc := 15) (i := 25) tW_X11_264_268 (by rfl) dX11_together_15 dX11_together_18 dX11_together_19 dX11_together_22 dX11_together_25 (by omega) (by simp [mm_crf, mm_cti, mm_ctl]) rfl e15
def F_X11_weddings (a0 : Option Nat) (a1 : Int32) (h : MH) : Option ((String ⊕ Int32) × MH) := mm_b3 (F_X11_needMinutes a1 h) fun _ h1 => mm_b2 (cV h1 a0 11 (F_X11_foresee a0 a1 h1)) fun v6 h6 => (gR h6 a0 11 7).bind fun v11 => mm_b2 (cV h6 v11 0 (F_X0_twosMarried v11 h6)) fun v14 h14 => some (.inr v14, h14)
set_option maxRecDepth 20000 in
set_option maxHeartbeats 4000000 in
theorem S_X11_weddings {d : Nat} (hd : 8 ≤ d) {a0 : Option Nat} {a1 : Int32} {h : MH} {r : String ⊕ Int32} {hz : MH} (hK : F_X11_weddings a0 a1 h = some (r, hz)) : mm_M yX11_weddings cX11_weddings 2 (some .int) d [va_rf a0, .int a1] h (mm_oi r) hz := by
  refine mm_ofV (by decide +kernel) (by simp [lg_sl, mm_crf, mm_cti, mm_ctl]) (fun V C => ?_)
  rw [show lv_args 0 [va_rf a0, .int a1] = [(0, va_rf a0), (1, .int a1)] by simp [lv_args, mm_crf, mm_cti, mm_ctl]]
  unfold F_X11_weddings at hK
  refine mm_iload_n C (pc := 0) 1 dX11_weddings_0 rfl ?_
  replace hK := mm_b3s hK; rcases hK with ⟨E1, e1, rfl⟩ | ⟨v1, h1, e1, hK⟩
  · skip
    exact mm_callSX C (pc := 1) (d1 := 7) (As := [.int a1]) (st := []) ((S_X11_needMinutes (by omega)) e1) tT_X11_needMinutes wd_1628 wd_1629 (by omega) (by decide) rfl (by simp [mm_crf, mm_cti, mm_ctl]) rfl dX11_weddings_1 rfl rfl
  refine mm_callS C (pc := 1) (d1 := 7) (As := [.int a1]) (st := []) (vk := none) ((S_X11_needMinutes (by omega)) e1) tT_X11_needMinutes wd_1628 wd_1629 (by omega) (by decide) rfl (by simp [mm_crf, mm_cti, mm_ctl]) rfl dX11_weddings_1 ?_
  show V _ _ [] _
  refine mm_aload_n C (pc := 4) 0 dX11_weddings_4 rfl ?_
  refine mm_iload_n C (pc := 5) 1 dX11_weddings_5 rfl ?_
  replace hK := mm_b2s hK; obtain ⟨v6, h6, e6, hK⟩ := hK
  obtain ⟨o6, e6⟩ := cV_some e6
  refine mm_callV C (pc := 6) (d1 := 6) (As := [.int a1]) (st := []) (vk := (some (.int v6))) ((S_X11_foresee (by omega)) e6) tT_X11_foresee o6 (Or.inr ⟨_, rfl, rfl⟩) wd_972 wd_974 wd_7 (by omega) (by decide) rfl (by simp [mm_crf, mm_cti, mm_ctl]) rfl dX11_weddings_6 ?_
  show V _ _ (.int v6 :: _) _
  refine mm_pop C (pc := 9) dX11_weddings_9 rfl ?_
  refine mm_aload_n C (pc := 10) 0 dX11_weddings_10 rfl ?_
  replace hK := mm_bd hK; obtain ⟨v11, e11, hK⟩ := hK
  refine mm_getr C (pc := 11) (k := 7) inGX11 rfl (by decide) wd_852 dX11_weddings_11 e11 ?_
  replace hK := mm_b2s hK; obtain ⟨v14, h14, e14, hK⟩ := hK
  obtain ⟨o14, e14⟩ := cV_some e14
  refine mm_callV C (pc := 14) (d1 := 3) (As := []) (st := []) (vk := (some (.int v14))) ((S_X0_twosMarried (by omega)) e14) tT_X0_twosMarried o14 (Or.inr ⟨_, rfl, rfl⟩) wd_1146 wd_1147 wd_1148 (by omega) (by decide) rfl (by simp [mm_crf, mm_cti, mm_ctl]) rfl dX11_weddings_14 ?_
  show V _ _ (.int v14 :: _) _
  cases hK
  exact mm_iret C (pc := 17) rfl dX11_weddings_17 rfl rfl
def F_X0_wasOn_15 (s0 : Int32) (h : MH) : Option (Int32 × MH) := rZ s0 h
set_option maxRecDepth 20000 in
set_option maxHeartbeats 4000000 in
theorem w_X0_wasOn_15 {d : Nat} {V : Nat → List (Nat × Value) → List Value → MH → Prop} {r : Int32} {hz : MH} (hd : 2 ≤ d) (C : mm_C d yX0_wasOn cX0_wasOn 2 (some .boolean) (.inr (some (.int r))) hz V) (s0 : Int32) (h : MH) (hK : F_X0_wasOn_15 s0 h = some (r, hz)) : V 15 [] [.int s0] h := by
  unfold F_X0_wasOn_15 at hK
  replace hK := rZ_some hK; obtain ⟨hv15, hK⟩ := hK
  cases hK
  exact mm_zret C (pc := 15) rfl (mm_nrZ hv15) dX0_wasOn_15 rfl rfl
def F_X0_wasOn (a0 : Option Nat) (a1 : Int32) (h : MH) : Option (Int32 × MH) := mm_b2 (cV h a0 0 (F_X0_fact a0 a1 (5 : Int32) h)) fun v3 h3 => if v3 = ((-1) : Int32) then (F_X0_wasOn_15 (0 : Int32) h3) else (F_X0_wasOn_15 (1 : Int32) h3)
set_option maxRecDepth 20000 in
set_option maxHeartbeats 4000000 in
theorem S_X0_wasOn {d : Nat} (hd : 2 ≤ d) {a0 : Option Nat} {a1 : Int32} {h : MH} {r : Int32} {hz : MH} (hK : F_X0_wasOn a0 a1 h = some (r, hz)) : mm_M yX0_wasOn cX0_wasOn 2 (some .boolean) d [va_rf a0, .int a1] h (.inr (some (.int r))) hz := by
  refine mm_ofV (by decide +kernel) (by simp [lg_sl, mm_crf, mm_cti, mm_ctl]) (fun V C => ?_)
  rw [show lv_args 0 [va_rf a0, .int a1] = [(0, va_rf a0), (1, .int a1)] by simp [lv_args, mm_crf, mm_cti, mm_ctl]]
  unfold F_X0_wasOn at hK
  refine mm_aload_n C (pc := 0) 0 dX0_wasOn_0 rfl ?_
  refine mm_iload_n C (pc := 1) 1 dX0_wasOn_1 rfl ?_
  refine mm_iconst C (pc := 2) (v := (5 : Int32)) dX0_wasOn_2 (by decide) ?_
  replace hK := mm_b2s hK; obtain ⟨v3, h3, e3, hK⟩ := hK
  obtain ⟨o3, e3⟩ := cV_some e3
  refine mm_callV C (pc := 3) (d1 := 1) (As := [.int a1, .int (5 : Int32)]) (st := []) (vk := (some (.int v3))) ((S_X0_fact (by omega)) e3) tT_X0_fact o3 (Or.inr ⟨_, rfl, rfl⟩) wd_960 wd_961 wd_962 (by omega) (by decide) rfl (by simp [mm_crf, mm_cti, mm_ctl]) rfl dX0_wasOn_3 ?_
  show V _ _ (.int v3 :: _) _
  refine mm_iconst C (pc := 6) (v := ((-1) : Int32)) dX0_wasOn_6 (by decide) ?_
  refine mm_icmp_eq C (pc := 7) (tgt := 14) dX0_wasOn_7 (by decide) (fun hc => ?_) (fun hc => ?_)
  · replace hK := mm_ip hc hK
    refine mm_iconst C (pc := 14) (v := (0 : Int32)) dX0_wasOn_14 (by decide) ?_
    refine mm_sub C [] rfl ?_
    exact w_X0_wasOn_15 hd C _ _ hK
  · replace hK := mm_in hc hK
    refine mm_iconst C (pc := 10) (v := (1 : Int32)) dX0_wasOn_10 (by decide) ?_
    refine mm_goto C (pc := 11) (tgt := 15) dX0_wasOn_11 (by decide) ?_
    refine mm_sub C [] rfl ?_
    exact w_X0_wasOn_15 hd C _ _ hK
theorem wd_1663 : Cond.methodLink RX11 293 yX0_endOf ∈ lw_good := mm_wd 1663 (by decide +kernel) (by decide +kernel)
theorem wd_1667 : Cond.code yX0_wasOn cX0_wasOn 2 (some .boolean) ∈ lw_good := mm_wd 1667 (by decide +kernel) (by decide +kernel)
theorem tT_X0_wasOn : mm_T yX0_wasOn cX0_wasOn 2 (some .boolean) 1 := ⟨wd_1667, wd_150, by decide +kernel, by decide +kernel, by decide +kernel, by decide +kernel⟩
theorem wd_1664 : Cond.methodLink RX11 281 yX0_wasOn ∈ lw_good := mm_wd 1664 (by decide +kernel) (by decide +kernel)
theorem wd_1665 : Cond.instanceMethod yX0_wasOn ∈ lw_good := mm_wd 1665 (by decide +kernel) (by decide +kernel)
theorem wd_1666 : Cond.selects RX0 yX0_wasOn yX0_wasOn ∈ lw_good := mm_wd 1666 (by decide +kernel) (by decide +kernel)
theorem wd_1662 : Cond.methodLink RX11 290 yX0_isOn ∈ lw_good := mm_wd 1662 (by decide +kernel) (by decide +kernel)
def F_X11_cordsInUse_96 (k4 : Option Nat → Int32 → Int32 → Int32 → MH → Option (Int32 × MH)) (l0 : Option Nat) (l1 : Int32) (l2 : Int32) (l3 : Int32) (h : MH) : Option (Int32 × MH) := k4 l0 l1 l2 (l3 + (1 : Int32)) h
set_option maxRecDepth 20000 in
set_option maxHeartbeats 4000000 in
theorem w_X11_cordsInUse_96 {d : Nat} {V : Nat → List (Nat × Value) → List Value → MH → Prop} {r : Int32} {hz : MH} {k4 : Option Nat → Int32 → Int32 → Int32 → MH → Option (Int32 × MH)} (hd : 3 ≤ d) (C : mm_C d yX11_cordsInUse cX11_cordsInUse 7 (some .int) (.inr (some (.int r))) hz V) (q4 : ∀ (x0 : Option Nat) (x1 : Int32) (x2 : Int32) (x3 : Int32) (h : MH), k4 x0 x1 x2 x3 h = some (r, hz) → V 4 [(0, va_rf x0), (1, .int x1), (2, .int x2), (3, .int x3)] [] h) (l0 : Option Nat) (l1 : Int32) (l2 : Int32) (l3 : Int32) (h : MH) (hK : F_X11_cordsInUse_96 k4 l0 l1 l2 l3 h = some (r, hz)) : V 96 [(0, va_rf l0), (1, .int l1), (2, .int l2), (3, .int l3)] [] h := by
  unfold F_X11_cordsInUse_96 at hK
  refine mm_iinc C (pc := 96) (v := (l3 + (1 : Int32))) (lv' := [(3, .int (l3 + (1 : Int32))), (0, va_rf l0), (1, .int l1), (2, .int l2)]) 3 dX11_cordsInUse_96 rfl rfl (by decide) rfl ?_
  refine mm_goto C (pc := 99) (tgt := 4) dX11_cordsInUse_99 (by decide) ?_
  refine mm_sub C [1, 2, 3, 0] rfl ?_
  exact q4 _ _ _ _ _ hK
def F_X11_cordsInUse_42 (k4 : Option Nat → Int32 → Int32 → Int32 → MH → Option (Int32 × MH)) (l0 : Option Nat) (l1 : Int32) (l2 : Int32) (l3 : Int32) (s0 : Int32) (h : MH) : Option (Int32 × MH) := (gR h l0 11 5).bind fun v45 => mm_b2 (cV h v45 0 (F_X0_fact v45 l3 (2 : Int32) h)) fun v50 h50 => (gR h50 l0 11 5).bind fun v56 => mm_b2 (cV h50 v56 0 (F_X0_endOf v56 l3 h50)) fun v60 h60 => if s0 = 0 then (F_X11_cordsInUse_96 k4 l0 l1 l2 l3 h60) else ((gR h60 l0 11 7).bind fun v71 => mm_b2 (cV h60 v71 0 (F_X0_wasOn v71 l3 h60)) fun v75 h75 => if v75 = 0 then (F_X11_cordsInUse_96 k4 l0 l1 l2 l3 h75) else (if l1 < v50 then (F_X11_cordsInUse_96 k4 l0 l1 l2 l3 h75) else (if v60 ≤ l1 then (F_X11_cordsInUse_96 k4 l0 l1 l2 l3 h75) else (F_X11_cordsInUse_96 k4 l0 l1 (l2 + (1 : Int32)) l3 h75))))
set_option maxRecDepth 20000 in
set_option maxHeartbeats 4000000 in
theorem w_X11_cordsInUse_42 {d : Nat} {V : Nat → List (Nat × Value) → List Value → MH → Prop} {r : Int32} {hz : MH} {k4 : Option Nat → Int32 → Int32 → Int32 → MH → Option (Int32 × MH)} (hd : 3 ≤ d) (C : mm_C d yX11_cordsInUse cX11_cordsInUse 7 (some .int) (.inr (some (.int r))) hz V) (q4 : ∀ (x0 : Option Nat) (x1 : Int32) (x2 : Int32) (x3 : Int32) (h : MH), k4 x0 x1 x2 x3 h = some (r, hz) → V 4 [(0, va_rf x0), (1, .int x1), (2, .int x2), (3, .int x3)] [] h) (l0 : Option Nat) (l1 : Int32) (l2 : Int32) (l3 : Int32) (s0 : Int32) (h : MH) (hK : F_X11_cordsInUse_42 k4 l0 l1 l2 l3 s0 h = some (r, hz)) : V 42 [(0, va_rf l0), (1, .int l1), (2, .int l2), (3, .int l3)] [.int s0] h := by
  unfold F_X11_cordsInUse_42 at hK
  refine mm_istore C (pc := 42) (i := 4) (lv' := [(4, .int s0), (0, va_rf l0), (1, .int l1), (2, .int l2), (3, .int l3)]) dX11_cordsInUse_42 (by decide) rfl ?_
  refine mm_aload_n C (pc := 44) 1 dX11_cordsInUse_44 rfl ?_
  replace hK := mm_bd hK; obtain ⟨v45, e45, hK⟩ := hK
  refine mm_getr C (pc := 45) (k := 5) inGX11 rfl (by decide) wd_850 dX11_cordsInUse_45 e45 ?_
  refine mm_iload_n C (pc := 48) 4 dX11_cordsInUse_48 rfl ?_
  refine mm_iconst C (pc := 49) (v := (2 : Int32)) dX11_cordsInUse_49 (by decide) ?_
  replace hK := mm_b2s hK; obtain ⟨v50, h50, e50, hK⟩ := hK
  obtain ⟨o50, e50⟩ := cV_some e50
  refine mm_callV C (pc := 50) (d1 := 1) (As := [.int l3, .int (2 : Int32)]) (st := []) (vk := (some (.int v50))) ((S_X0_fact (by omega)) e50) tT_X0_fact o50 (Or.inr ⟨_, rfl, rfl⟩) wd_1077 wd_961 wd_962 (by omega) (by decide) rfl (by simp [mm_crf, mm_cti, mm_ctl]) rfl dX11_cordsInUse_50 ?_
  show V _ _ (.int v50 :: _) _
  refine mm_istore C (pc := 53) (i := 5) (lv' := [(5, .int v50), (4, .int s0), (0, va_rf l0), (1, .int l1), (2, .int l2), (3, .int l3)]) dX11_cordsInUse_53 (by decide) rfl ?_
  refine mm_aload_n C (pc := 55) 2 dX11_cordsInUse_55 rfl ?_
  replace hK := mm_bd hK; obtain ⟨v56, e56, hK⟩ := hK
  refine mm_getr C (pc := 56) (k := 5) inGX11 rfl (by decide) wd_850 dX11_cordsInUse_56 e56 ?_
  refine mm_iload_n C (pc := 59) 5 dX11_cordsInUse_59 rfl ?_
  replace hK := mm_b2s hK; obtain ⟨v60, h60, e60, hK⟩ := hK
  obtain ⟨o60, e60⟩ := cV_some e60
  refine mm_callV C (pc := 60) (d1 := 2) (As := [.int l3]) (st := []) (vk := (some (.int v60))) ((S_X0_endOf (by omega)) e60) tT_X0_endOf o60 (Or.inr ⟨_, rfl, rfl⟩) wd_1663 wd_1001 wd_1002 (by omega) (by decide) rfl (by simp [mm_crf, mm_cti, mm_ctl]) rfl dX11_cordsInUse_60 ?_
  show V _ _ (.int v60 :: _) _
  refine mm_istore C (pc := 63) (i := 6) (lv' := [(6, .int v60), (5, .int v50), (4, .int s0), (0, va_rf l0), (1, .int l1), (2, .int l2), (3, .int l3)]) dX11_cordsInUse_63 (by decide) rfl ?_
  refine mm_iload C (pc := 65) 2 dX11_cordsInUse_65 rfl ?_
  refine mm_if_eq C (pc := 67) (tgt := 96) dX11_cordsInUse_67 (by decide) (fun hc => ?_) (fun hc => ?_)
  · replace hK := mm_ip hc hK
    refine mm_sub C [3, 4, 5, 6] rfl ?_
    exact w_X11_cordsInUse_96 hd C (fun z0 z1 z2 z3 z4 hK => q4 z0 z1 z2 z3 z4 hK) _ _ _ _ _ hK
  · replace hK := mm_in hc hK
    refine mm_aload_n C (pc := 70) 3 dX11_cordsInUse_70 rfl ?_
    replace hK := mm_bd hK; obtain ⟨v71, e71, hK⟩ := hK
    refine mm_getr C (pc := 71) (k := 7) inGX11 rfl (by decide) wd_852 dX11_cordsInUse_71 e71 ?_
    refine mm_iload_n C (pc := 74) 6 dX11_cordsInUse_74 rfl ?_
    replace hK := mm_b2s hK; obtain ⟨v75, h75, e75, hK⟩ := hK
    obtain ⟨o75, e75⟩ := cV_some e75
    refine mm_callV C (pc := 75) (d1 := 2) (As := [.int l3]) (st := []) (vk := (some (.int v75))) ((S_X0_wasOn (by omega)) e75) tT_X0_wasOn o75 (Or.inr ⟨_, rfl, rfl⟩) wd_1664 wd_1665 wd_1666 (by omega) (by decide) rfl (by simp [mm_crf, mm_cti, mm_ctl]) rfl dX11_cordsInUse_75 ?_
    show V _ _ (.int v75 :: _) _
    refine mm_if_eq C (pc := 78) (tgt := 96) dX11_cordsInUse_78 (by decide) (fun hc => ?_) (fun hc => ?_)
    · replace hK := mm_ip hc hK
      refine mm_sub C [3, 4, 5, 6] rfl ?_
      exact w_X11_cordsInUse_96 hd C (fun z0 z1 z2 z3 z4 hK => q4 z0 z1 z2 z3 z4 hK) _ _ _ _ _ hK
    · replace hK := mm_in hc hK
      refine mm_iload C (pc := 81) 1 dX11_cordsInUse_81 rfl ?_
      refine mm_iload_n C (pc := 83) 4 dX11_cordsInUse_83 rfl ?_
      refine mm_icmp_gt C (pc := 84) (tgt := 96) dX11_cordsInUse_84 (by decide) (fun hc => ?_) (fun hc => ?_)
      · replace hK := mm_ip hc hK
        refine mm_sub C [3, 4, 5, 6] rfl ?_
        exact w_X11_cordsInUse_96 hd C (fun z0 z1 z2 z3 z4 hK => q4 z0 z1 z2 z3 z4 hK) _ _ _ _ _ hK
      · replace hK := mm_in hc hK
        refine mm_iload_n C (pc := 87) 4 dX11_cordsInUse_87 rfl ?_
        refine mm_iload C (pc := 88) 0 dX11_cordsInUse_88 rfl ?_
        refine mm_icmp_ge C (pc := 90) (tgt := 96) dX11_cordsInUse_90 (by decide) (fun hc => ?_) (fun hc => ?_)
        · replace hK := mm_ip hc hK
          refine mm_sub C [3, 4, 5, 6] rfl ?_
          exact w_X11_cordsInUse_96 hd C (fun z0 z1 z2 z3 z4 hK => q4 z0 z1 z2 z3 z4 hK) _ _ _ _ _ hK
        · replace hK := mm_in hc hK
          refine mm_iinc C (pc := 93) (v := (l2 + (1 : Int32))) (lv' := [(2, .int (l2 + (1 : Int32))), (6, .int v60), (5, .int v50), (4, .int s0), (0, va_rf l0), (1, .int l1), (3, .int l3)]) 5 dX11_cordsInUse_93 rfl rfl (by decide) rfl ?_
          refine mm_sub C [4, 5, 0, 6] rfl ?_
          exact w_X11_cordsInUse_96 hd C (fun z0 z1 z2 z3 z4 hK => q4 z0 z1 z2 z3 z4 hK) _ _ _ _ _ hK
def F_X11_cordsInUse_37 (k4 : Option Nat → Int32 → Int32 → Int32 → MH → Option (Int32 × MH)) (l0 : Option Nat) (l1 : Int32) (l2 : Int32) (l3 : Int32) (h : MH) : Option (Int32 × MH) := F_X11_cordsInUse_42 k4 l0 l1 l2 l3 (1 : Int32) h
set_option maxRecDepth 20000 in
set_option maxHeartbeats 4000000 in
theorem w_X11_cordsInUse_37 {d : Nat} {V : Nat → List (Nat × Value) → List Value → MH → Prop} {r : Int32} {hz : MH} {k4 : Option Nat → Int32 → Int32 → Int32 → MH → Option (Int32 × MH)} (hd : 3 ≤ d) (C : mm_C d yX11_cordsInUse cX11_cordsInUse 7 (some .int) (.inr (some (.int r))) hz V) (q4 : ∀ (x0 : Option Nat) (x1 : Int32) (x2 : Int32) (x3 : Int32) (h : MH), k4 x0 x1 x2 x3 h = some (r, hz) → V 4 [(0, va_rf x0), (1, .int x1), (2, .int x2), (3, .int x3)] [] h) (l0 : Option Nat) (l1 : Int32) (l2 : Int32) (l3 : Int32) (h : MH) (hK : F_X11_cordsInUse_37 k4 l0 l1 l2 l3 h = some (r, hz)) : V 37 [(0, va_rf l0), (1, .int l1), (2, .int l2), (3, .int l3)] [] h := by
  unfold F_X11_cordsInUse_37 at hK
  refine mm_iconst C (pc := 37) (v := (1 : Int32)) dX11_cordsInUse_37 (by decide) ?_
  refine mm_goto C (pc := 38) (tgt := 42) dX11_cordsInUse_38 (by decide) ?_
  exact w_X11_cordsInUse_42 hd C (fun z0 z1 z2 z3 z4 hK => q4 z0 z1 z2 z3 z4 hK) _ _ _ _ _ _ hK
def F_X11_cordsInUse_4 : Nat → Option Nat → Int32 → Int32 → Int32 → MH → Option (Int32 × MH)
  | 0 => fun _ _ _ _ _ => none
  | n + 1 => fun l0 l1 l2 l3 h => (gR h l0 11 5).bind fun v6 => mm_b2 (cV h v6 0 (F_X0_calls v6 h)) fun v9 h9 => if v9 ≤ l3 then (some (l2, h9)) else ((gR h9 l0 11 5).bind fun v16 => mm_b2 (cV h9 v16 0 (F_X0_isToCome v16 l3 h9)) fun v20 h20 => if v20 = 0 then ((gR h20 l0 11 5).bind fun v27 => mm_b2 (cV h20 v27 0 (F_X0_isOn v27 l3 h20)) fun v31 h31 => if v31 = 0 then (F_X11_cordsInUse_42 (F_X11_cordsInUse_4 n) l0 l1 l2 l3 (0 : Int32) h31) else (F_X11_cordsInUse_37 (F_X11_cordsInUse_4 n) l0 l1 l2 l3 h31)) else (F_X11_cordsInUse_37 (F_X11_cordsInUse_4 n) l0 l1 l2 l3 h20))
set_option maxRecDepth 20000 in
set_option maxHeartbeats 4000000 in
theorem w_X11_cordsInUse_4 {d : Nat} {V : Nat → List (Nat × Value) → List Value → MH → Prop} {r : Int32} {hz : MH} (hd : 3 ≤ d) (C : mm_C d yX11_cordsInUse cX11_cordsInUse 7 (some .int) (.inr (some (.int r))) hz V) : ∀ (n : Nat) (l0 : Option Nat) (l1 : Int32) (l2 : Int32) (l3 : Int32) (h : MH), F_X11_cordsInUse_4 n l0 l1 l2 l3 h = some (r, hz) → V 4 [(0, va_rf l0), (1, .int l1), (2, .int l2), (3, .int l3)] [] h := by
  intro n
  induction n with
  | zero => intro l0 l1 l2 l3 h hK; cases hK
  | succ n ih =>
    intro l0 l1 l2 l3 h hK
    replace hK : ((gR h l0 11 5).bind fun v6 => mm_b2 (cV h v6 0 (F_X0_calls v6 h)) fun v9 h9 => if v9 ≤ l3 then (some (l2, h9)) else ((gR h9 l0 11 5).bind fun v16 => mm_b2 (cV h9 v16 0 (F_X0_isToCome v16 l3 h9)) fun v20 h20 => if v20 = 0 then ((gR h20 l0 11 5).bind fun v27 => mm_b2 (cV h20 v27 0 (F_X0_isOn v27 l3 h20)) fun v31 h31 => if v31 = 0 then (F_X11_cordsInUse_42 (F_X11_cordsInUse_4 n) l0 l1 l2 l3 (0 : Int32) h31) else (F_X11_cordsInUse_37 (F_X11_cordsInUse_4 n) l0 l1 l2 l3 h31)) else (F_X11_cordsInUse_37 (F_X11_cordsInUse_4 n) l0 l1 l2 l3 h20))) = some (r, hz) := hK
    refine mm_iload_n C (pc := 4) 3 dX11_cordsInUse_4 rfl ?_
    refine mm_aload_n C (pc := 5) 0 dX11_cordsInUse_5 rfl ?_
    replace hK := mm_bd hK; obtain ⟨v6, e6, hK⟩ := hK
    refine mm_getr C (pc := 6) (k := 5) inGX11 rfl (by decide) wd_850 dX11_cordsInUse_6 e6 ?_
    replace hK := mm_b2s hK; obtain ⟨v9, h9, e9, hK⟩ := hK
    obtain ⟨o9, e9⟩ := cV_some e9
    refine mm_callV C (pc := 9) (d1 := 1) (As := []) (st := [.int l3]) (vk := (some (.int v9))) ((S_X0_calls (by omega)) e9) tT_X0_calls o9 (Or.inr ⟨_, rfl, rfl⟩) wd_1075 wd_919 wd_920 (by omega) (by decide) rfl (by simp [mm_crf, mm_cti, mm_ctl]) rfl dX11_cordsInUse_9 ?_
    show V _ _ (.int v9 :: _) _
    refine mm_icmp_ge C (pc := 12) (tgt := 102) dX11_cordsInUse_12 (by decide) (fun hc => ?_) (fun hc => ?_)
    · replace hK := mm_ip hc hK
      refine mm_iload_n C (pc := 102) 2 dX11_cordsInUse_102 rfl ?_
      cases hK
      exact mm_iret C (pc := 103) rfl dX11_cordsInUse_103 rfl rfl
    · replace hK := mm_in hc hK
      refine mm_aload_n C (pc := 15) 0 dX11_cordsInUse_15 rfl ?_
      replace hK := mm_bd hK; obtain ⟨v16, e16, hK⟩ := hK
      refine mm_getr C (pc := 16) (k := 5) inGX11 rfl (by decide) wd_850 dX11_cordsInUse_16 e16 ?_
      refine mm_iload_n C (pc := 19) 3 dX11_cordsInUse_19 rfl ?_
      replace hK := mm_b2s hK; obtain ⟨v20, h20, e20, hK⟩ := hK
      obtain ⟨o20, e20⟩ := cV_some e20
      refine mm_callV C (pc := 20) (d1 := 2) (As := [.int l3]) (st := []) (vk := (some (.int v20))) ((S_X0_isToCome (by omega)) e20) tT_X0_isToCome o20 (Or.inr ⟨_, rfl, rfl⟩) wd_1076 wd_991 wd_992 (by omega) (by decide) rfl (by simp [mm_crf, mm_cti, mm_ctl]) rfl dX11_cordsInUse_20 ?_
      show V _ _ (.int v20 :: _) _
      refine mm_if_ne C (pc := 23) (tgt := 37) dX11_cordsInUse_23 (by decide) (fun hc => ?_) (fun hc => ?_)
      · replace hK := mm_in hc hK
        exact w_X11_cordsInUse_37 hd C (fun z0 z1 z2 z3 z4 hK => ih z0 z1 z2 z3 z4 hK) _ _ _ _ _ hK
      · replace hK := mm_ip hc hK
        refine mm_aload_n C (pc := 26) 0 dX11_cordsInUse_26 rfl ?_
        replace hK := mm_bd hK; obtain ⟨v27, e27, hK⟩ := hK
        refine mm_getr C (pc := 27) (k := 5) inGX11 rfl (by decide) wd_850 dX11_cordsInUse_27 e27 ?_
        refine mm_iload_n C (pc := 30) 3 dX11_cordsInUse_30 rfl ?_
        replace hK := mm_b2s hK; obtain ⟨v31, h31, e31, hK⟩ := hK
        obtain ⟨o31, e31⟩ := cV_some e31
        refine mm_callV C (pc := 31) (d1 := 2) (As := [.int l3]) (st := []) (vk := (some (.int v31))) ((S_X0_isOn (by omega)) e31) tT_X0_isOn o31 (Or.inr ⟨_, rfl, rfl⟩) wd_1662 wd_957 wd_958 (by omega) (by decide) rfl (by simp [mm_crf, mm_cti, mm_ctl]) rfl dX11_cordsInUse_31 ?_
        show V _ _ (.int v31 :: _) _
        refine mm_if_eq C (pc := 34) (tgt := 41) dX11_cordsInUse_34 (by decide) (fun hc => ?_) (fun hc => ?_)
        · replace hK := mm_ip hc hK
          refine mm_iconst C (pc := 41) (v := (0 : Int32)) dX11_cordsInUse_41 (by decide) ?_
          exact w_X11_cordsInUse_42 hd C (fun z0 z1 z2 z3 z4 hK => ih z0 z1 z2 z3 z4 hK) _ _ _ _ _ _ hK
        · replace hK := mm_in hc hK
          exact w_X11_cordsInUse_37 hd C (fun z0 z1 z2 z3 z4 hK => ih z0 z1 z2 z3 z4 hK) _ _ _ _ _ hK
def F_X11_cordsInUse (a0 : Option Nat) (a1 : Int32) (h : MH) : Option (Int32 × MH) := F_X11_cordsInUse_4 mm_N a0 a1 (0 : Int32) (0 : Int32) h
set_option maxRecDepth 20000 in
set_option maxHeartbeats 4000000 in
theorem S_X11_cordsInUse {d : Nat} (hd : 3 ≤ d) {a0 : Option Nat} {a1 : Int32} {h : MH} {r : Int32} {hz : MH} (hK : F_X11_cordsInUse a0 a1 h = some (r, hz)) : mm_M yX11_cordsInUse cX11_cordsInUse 7 (some .int) d [va_rf a0, .int a1] h (.inr (some (.int r))) hz := by
  refine mm_ofV (by decide +kernel) (by simp [lg_sl, mm_crf, mm_cti, mm_ctl]) (fun V C => ?_)
  rw [show lv_args 0 [va_rf a0, .int a1] = [(0, va_rf a0), (1, .int a1)] by simp [lv_args, mm_crf, mm_cti, mm_ctl]]
  unfold F_X11_cordsInUse at hK
  refine mm_iconst C (pc := 0) (v := (0 : Int32)) dX11_cordsInUse_0 (by decide) ?_
  refine mm_istore_n C (pc := 1) (i := 2) (lv' := [(2, .int (0 : Int32)), (0, va_rf a0), (1, .int a1)]) dX11_cordsInUse_1 rfl (by decide) rfl ?_
  refine mm_iconst C (pc := 2) (v := (0 : Int32)) dX11_cordsInUse_2 (by decide) ?_
  refine mm_istore_n C (pc := 3) (i := 3) (lv' := [(3, .int (0 : Int32)), (2, .int (0 : Int32)), (0, va_rf a0), (1, .int a1)]) dX11_cordsInUse_3 rfl (by decide) rfl ?_
  refine mm_sub C [2, 3, 1, 0] rfl ?_
  exact w_X11_cordsInUse_4 hd C _ _ _ _ _ _ hK
theorem wd_1661 : Cond.code yX11_cordsInUse cX11_cordsInUse 7 (some .int) ∈ lw_good := mm_wd 1661 (by decide +kernel) (by decide +kernel)
theorem tT_X11_cordsInUse : mm_T yX11_cordsInUse cX11_cordsInUse 7 (some .int) 1 := ⟨wd_1661, wd_142, by decide +kernel, by decide +kernel, by decide +kernel, by decide +kernel⟩
theorem wd_1658 : Cond.methodLink RX11 278 yX11_cordsInUse ∈ lw_good := mm_wd 1658 (by decide +kernel) (by decide +kernel)
theorem wd_1660 : Cond.instanceMethod yX11_cordsInUse ∈ lw_good := mm_wd 1660 (by decide +kernel) (by decide +kernel)
theorem wd_43 : Cond.selects RX11 yX11_cordsInUse yX11_cordsInUse ∈ lw_good := mm_wd 43 (by decide +kernel) (by decide +kernel)
def F_X11_busiest_116 (k30 : Option Nat → Int32 → Int32 → Int32 → Int32 → MH → Option ((String ⊕ Int32) × MH)) (l0 : Option Nat) (l2 : Int32) (l3 : Int32) (l4 : Int32) (l5 : Int32) (h : MH) : Option ((String ⊕ Int32) × MH) := k30 l0 l2 l3 l4 (l5 + (1 : Int32)) h
set_option maxRecDepth 20000 in
set_option maxHeartbeats 4000000 in
theorem w_X11_busiest_116 {d : Nat} {V : Nat → List (Nat × Value) → List Value → MH → Prop} {r : String ⊕ Int32} {hz : MH} {k30 : Option Nat → Int32 → Int32 → Int32 → Int32 → MH → Option ((String ⊕ Int32) × MH)} (hd : 8 ≤ d) (C : mm_C d yX11_busiest cX11_busiest 8 (some .int) (mm_oi r) hz V) (q30 : ∀ (x0 : Option Nat) (x1 : Int32) (x2 : Int32) (x3 : Int32) (x4 : Int32) (h : MH), k30 x0 x1 x2 x3 x4 h = some (r, hz) → V 30 [(0, va_rf x0), (2, .int x1), (3, .int x2), (4, .int x3), (5, .int x4)] [] h) (l0 : Option Nat) (l2 : Int32) (l3 : Int32) (l4 : Int32) (l5 : Int32) (h : MH) (hK : F_X11_busiest_116 k30 l0 l2 l3 l4 l5 h = some (r, hz)) : V 116 [(0, va_rf l0), (2, .int l2), (3, .int l3), (4, .int l4), (5, .int l5)] [] h := by
  unfold F_X11_busiest_116 at hK
  refine mm_iinc C (pc := 116) (v := (l5 + (1 : Int32))) (lv' := [(5, .int (l5 + (1 : Int32))), (0, va_rf l0), (2, .int l2), (3, .int l3), (4, .int l4)]) 4 dX11_busiest_116 rfl rfl (by decide) rfl ?_
  refine mm_goto C (pc := 119) (tgt := 30) dX11_busiest_119 (by decide) ?_
  refine mm_sub C [1, 2, 3, 4, 0] rfl ?_
  exact q30 _ _ _ _ _ _ hK
def F_X11_busiest_109 (k30 : Option Nat → Int32 → Int32 → Int32 → Int32 → MH → Option ((String ⊕ Int32) × MH)) (l0 : Option Nat) (l2 : Int32) (l5 : Int32) (l6 : Int32) (l7 : Int32) (h : MH) : Option ((String ⊕ Int32) × MH) := F_X11_busiest_116 k30 l0 l2 l7 l6 l5 h
set_option maxRecDepth 20000 in
set_option maxHeartbeats 4000000 in
theorem w_X11_busiest_109 {d : Nat} {V : Nat → List (Nat × Value) → List Value → MH → Prop} {r : String ⊕ Int32} {hz : MH} {k30 : Option Nat → Int32 → Int32 → Int32 → Int32 → MH → Option ((String ⊕ Int32) × MH)} (hd : 8 ≤ d) (C : mm_C d yX11_busiest cX11_busiest 8 (some .int) (mm_oi r) hz V) (q30 : ∀ (x0 : Option Nat) (x1 : Int32) (x2 : Int32) (x3 : Int32) (x4 : Int32) (h : MH), k30 x0 x1 x2 x3 x4 h = some (r, hz) → V 30 [(0, va_rf x0), (2, .int x1), (3, .int x2), (4, .int x3), (5, .int x4)] [] h) (l0 : Option Nat) (l2 : Int32) (l5 : Int32) (l6 : Int32) (l7 : Int32) (h : MH) (hK : F_X11_busiest_109 k30 l0 l2 l5 l6 l7 h = some (r, hz)) : V 109 [(0, va_rf l0), (2, .int l2), (5, .int l5), (6, .int l6), (7, .int l7)] [] h := by
  unfold F_X11_busiest_109 at hK
  refine mm_iload C (pc := 109) 4 dX11_busiest_109 rfl ?_
  refine mm_istore_n C (pc := 111) (i := 3) (lv' := [(3, .int l7), (0, va_rf l0), (2, .int l2), (5, .int l5), (6, .int l6), (7, .int l7)]) dX11_busiest_111 rfl (by decide) rfl ?_
  refine mm_iload C (pc := 112) 4 dX11_busiest_112 rfl ?_
  refine mm_istore C (pc := 114) (i := 4) (lv' := [(4, .int l6), (3, .int l7), (0, va_rf l0), (2, .int l2), (5, .int l5), (6, .int l6), (7, .int l7)]) dX11_busiest_114 (by decide) rfl ?_
  refine mm_sub C [2, 3, 1, 0, 4] rfl ?_
  exact w_X11_busiest_116 hd C (fun z0 z1 z2 z3 z4 z5 hK => q30 z0 z1 z2 z3 z4 z5 hK) _ _ _ _ _ _ hK
def F_X11_busiest_30 : Nat → Option Nat → Int32 → Int32 → Int32 → Int32 → MH → Option ((String ⊕ Int32) × MH)
  | 0 => fun _ _ _ _ _ _ => none
  | n + 1 => fun l0 l2 l3 l4 l5 h => (gR h l0 11 5).bind fun v33 => mm_b2 (cV h v33 0 (F_X0_calls v33 h)) fun v36 h36 => if v36 ≤ l5 then (some (.inr l4, h36)) else ((gR h36 l0 11 5).bind fun v43 => mm_b2 (cV h36 v43 0 (F_X0_isToCome v43 l5 h36)) fun v48 h48 => if v48 = 0 then (F_X11_busiest_116 (F_X11_busiest_30 n) l0 l2 l3 l4 l5 h48) else ((gR h48 l0 11 7).bind fun v55 => mm_b2 (cV h48 v55 0 (F_X0_wasOn v55 l5 h48)) fun v60 h60 => if v60 = 0 then (F_X11_busiest_116 (F_X11_busiest_30 n) l0 l2 l3 l4 l5 h60) else ((gR h60 l0 11 5).bind fun v67 => mm_b2 (cV h60 v67 0 (F_X0_fact v67 l5 (2 : Int32) h60)) fun v73 h73 => mm_b2 (cV h73 l0 11 (F_X11_cordsInUse l0 (l2 + (v73 - l2)) h73)) fun v85 h85 => if l3 < v85 then (F_X11_busiest_109 (F_X11_busiest_30 n) l0 l2 l5 (v73 - l2) v85 h85) else (if v85 = l3 then (if l4 ≤ (v73 - l2) then (F_X11_busiest_116 (F_X11_busiest_30 n) l0 l2 l3 l4 l5 h85) else (F_X11_busiest_109 (F_X11_busiest_30 n) l0 l2 l5 (v73 - l2) v85 h85)) else (F_X11_busiest_116 (F_X11_busiest_30 n) l0 l2 l3 l4 l5 h85)))))
set_option maxRecDepth 20000 in
set_option maxHeartbeats 4000000 in
theorem w_X11_busiest_30 {d : Nat} {V : Nat → List (Nat × Value) → List Value → MH → Prop} {r : String ⊕ Int32} {hz : MH} (hd : 8 ≤ d) (C : mm_C d yX11_busiest cX11_busiest 8 (some .int) (mm_oi r) hz V) : ∀ (n : Nat) (l0 : Option Nat) (l2 : Int32) (l3 : Int32) (l4 : Int32) (l5 : Int32) (h : MH), F_X11_busiest_30 n l0 l2 l3 l4 l5 h = some (r, hz) → V 30 [(0, va_rf l0), (2, .int l2), (3, .int l3), (4, .int l4), (5, .int l5)] [] h := by
  intro n
  induction n with
  | zero => intro l0 l2 l3 l4 l5 h hK; cases hK
  | succ n ih =>
    intro l0 l2 l3 l4 l5 h hK
    replace hK : ((gR h l0 11 5).bind fun v33 => mm_b2 (cV h v33 0 (F_X0_calls v33 h)) fun v36 h36 => if v36 ≤ l5 then (some (.inr l4, h36)) else ((gR h36 l0 11 5).bind fun v43 => mm_b2 (cV h36 v43 0 (F_X0_isToCome v43 l5 h36)) fun v48 h48 => if v48 = 0 then (F_X11_busiest_116 (F_X11_busiest_30 n) l0 l2 l3 l4 l5 h48) else ((gR h48 l0 11 7).bind fun v55 => mm_b2 (cV h48 v55 0 (F_X0_wasOn v55 l5 h48)) fun v60 h60 => if v60 = 0 then (F_X11_busiest_116 (F_X11_busiest_30 n) l0 l2 l3 l4 l5 h60) else ((gR h60 l0 11 5).bind fun v67 => mm_b2 (cV h60 v67 0 (F_X0_fact v67 l5 (2 : Int32) h60)) fun v73 h73 => mm_b2 (cV h73 l0 11 (F_X11_cordsInUse l0 (l2 + (v73 - l2)) h73)) fun v85 h85 => if l3 < v85 then (F_X11_busiest_109 (F_X11_busiest_30 n) l0 l2 l5 (v73 - l2) v85 h85) else (if v85 = l3 then (if l4 ≤ (v73 - l2) then (F_X11_busiest_116 (F_X11_busiest_30 n) l0 l2 l3 l4 l5 h85) else (F_X11_busiest_109 (F_X11_busiest_30 n) l0 l2 l5 (v73 - l2) v85 h85)) else (F_X11_busiest_116 (F_X11_busiest_30 n) l0 l2 l3 l4 l5 h85)))))) = some (r, hz) := hK
    refine mm_iload C (pc := 30) 4 dX11_busiest_30 rfl ?_
    refine mm_aload_n C (pc := 32) 0 dX11_busiest_32 rfl ?_
    replace hK := mm_bd hK; obtain ⟨v33, e33, hK⟩ := hK
    refine mm_getr C (pc := 33) (k := 5) inGX11 rfl (by decide) wd_850 dX11_busiest_33 e33 ?_
    replace hK := mm_b2s hK; obtain ⟨v36, h36, e36, hK⟩ := hK
    obtain ⟨o36, e36⟩ := cV_some e36
    refine mm_callV C (pc := 36) (d1 := 1) (As := []) (st := [.int l5]) (vk := (some (.int v36))) ((S_X0_calls (by omega)) e36) tT_X0_calls o36 (Or.inr ⟨_, rfl, rfl⟩) wd_1075 wd_919 wd_920 (by omega) (by decide) rfl (by simp [mm_crf, mm_cti, mm_ctl]) rfl dX11_busiest_36 ?_
    show V _ _ (.int v36 :: _) _
    refine mm_icmp_ge C (pc := 39) (tgt := 122) dX11_busiest_39 (by decide) (fun hc => ?_) (fun hc => ?_)
    · replace hK := mm_ip hc hK
      refine mm_iload C (pc := 122) 3 dX11_busiest_122 rfl ?_
      cases hK
      exact mm_iret C (pc := 124) rfl dX11_busiest_124 rfl rfl
    · replace hK := mm_in hc hK
      refine mm_aload_n C (pc := 42) 0 dX11_busiest_42 rfl ?_
      replace hK := mm_bd hK; obtain ⟨v43, e43, hK⟩ := hK
      refine mm_getr C (pc := 43) (k := 5) inGX11 rfl (by decide) wd_850 dX11_busiest_43 e43 ?_
      refine mm_iload C (pc := 46) 4 dX11_busiest_46 rfl ?_
      replace hK := mm_b2s hK; obtain ⟨v48, h48, e48, hK⟩ := hK
      obtain ⟨o48, e48⟩ := cV_some e48
      refine mm_callV C (pc := 48) (d1 := 2) (As := [.int l5]) (st := []) (vk := (some (.int v48))) ((S_X0_isToCome (by omega)) e48) tT_X0_isToCome o48 (Or.inr ⟨_, rfl, rfl⟩) wd_1076 wd_991 wd_992 (by omega) (by decide) rfl (by simp [mm_crf, mm_cti, mm_ctl]) rfl dX11_busiest_48 ?_
      show V _ _ (.int v48 :: _) _
      refine mm_if_eq C (pc := 51) (tgt := 116) dX11_busiest_51 (by decide) (fun hc => ?_) (fun hc => ?_)
      · replace hK := mm_ip hc hK
        exact w_X11_busiest_116 hd C (fun z0 z1 z2 z3 z4 z5 hK => ih z0 z1 z2 z3 z4 z5 hK) _ _ _ _ _ _ hK
      · replace hK := mm_in hc hK
        refine mm_aload_n C (pc := 54) 0 dX11_busiest_54 rfl ?_
        replace hK := mm_bd hK; obtain ⟨v55, e55, hK⟩ := hK
        refine mm_getr C (pc := 55) (k := 7) inGX11 rfl (by decide) wd_852 dX11_busiest_55 e55 ?_
        refine mm_iload C (pc := 58) 4 dX11_busiest_58 rfl ?_
        replace hK := mm_b2s hK; obtain ⟨v60, h60, e60, hK⟩ := hK
        obtain ⟨o60, e60⟩ := cV_some e60
        refine mm_callV C (pc := 60) (d1 := 2) (As := [.int l5]) (st := []) (vk := (some (.int v60))) ((S_X0_wasOn (by omega)) e60) tT_X0_wasOn o60 (Or.inr ⟨_, rfl, rfl⟩) wd_1664 wd_1665 wd_1666 (by omega) (by decide) rfl (by simp [mm_crf, mm_cti, mm_ctl]) rfl dX11_busiest_60 ?_
        show V _ _ (.int v60 :: _) _
        refine mm_if_eq C (pc := 63) (tgt := 116) dX11_busiest_63 (by decide) (fun hc => ?_) (fun hc => ?_)
        · replace hK := mm_ip hc hK
          exact w_X11_busiest_116 hd C (fun z0 z1 z2 z3 z4 z5 hK => ih z0 z1 z2 z3 z4 z5 hK) _ _ _ _ _ _ hK
        · replace hK := mm_in hc hK
          refine mm_aload_n C (pc := 66) 0 dX11_busiest_66 rfl ?_
          replace hK := mm_bd hK; obtain ⟨v67, e67, hK⟩ := hK
          refine mm_getr C (pc := 67) (k := 5) inGX11 rfl (by decide) wd_850 dX11_busiest_67 e67 ?_
          refine mm_iload C (pc := 70) 4 dX11_busiest_70 rfl ?_
          refine mm_iconst C (pc := 72) (v := (2 : Int32)) dX11_busiest_72 (by decide) ?_
          replace hK := mm_b2s hK; obtain ⟨v73, h73, e73, hK⟩ := hK
          obtain ⟨o73, e73⟩ := cV_some e73
          refine mm_callV C (pc := 73) (d1 := 1) (As := [.int l5, .int (2 : Int32)]) (st := []) (vk := (some (.int v73))) ((S_X0_fact (by omega)) e73) tT_X0_fact o73 (Or.inr ⟨_, rfl, rfl⟩) wd_1077 wd_961 wd_962 (by omega) (by decide) rfl (by simp [mm_crf, mm_cti, mm_ctl]) rfl dX11_busiest_73 ?_
          show V _ _ (.int v73 :: _) _
          refine mm_iload_n C (pc := 76) 1 dX11_busiest_76 rfl ?_
          refine mm_isub C (pc := 77) dX11_busiest_77 ?_
          refine mm_istore C (pc := 78) (i := 6) (lv' := [(6, .int (v73 - l2)), (0, va_rf l0), (2, .int l2), (3, .int l3), (4, .int l4), (5, .int l5)]) dX11_busiest_78 (by decide) rfl ?_
          refine mm_aload_n C (pc := 80) 1 dX11_busiest_80 rfl ?_
          refine mm_iload_n C (pc := 81) 2 dX11_busiest_81 rfl ?_
          refine mm_iload C (pc := 82) 0 dX11_busiest_82 rfl ?_
          refine mm_iadd C (pc := 84) dX11_busiest_84 ?_
          replace hK := mm_b2s hK; obtain ⟨v85, h85, e85, hK⟩ := hK
          obtain ⟨o85, e85⟩ := cV_some e85
          refine mm_callV C (pc := 85) (d1 := 3) (As := [.int (l2 + (v73 - l2))]) (st := []) (vk := (some (.int v85))) ((S_X11_cordsInUse (by omega)) e85) tT_X11_cordsInUse o85 (Or.inr ⟨_, rfl, rfl⟩) wd_1658 wd_1660 wd_43 (by omega) (by decide) rfl (by simp [mm_crf, mm_cti, mm_ctl]) rfl dX11_busiest_85 ?_
          show V _ _ (.int v85 :: _) _
          refine mm_istore C (pc := 88) (i := 7) (lv' := [(7, .int v85), (6, .int (v73 - l2)), (0, va_rf l0), (2, .int l2), (3, .int l3), (4, .int l4), (5, .int l5)]) dX11_busiest_88 (by decide) rfl ?_
          refine mm_iload C (pc := 90) 0 dX11_busiest_90 rfl ?_
          refine mm_iload_n C (pc := 92) 4 dX11_busiest_92 rfl ?_
          refine mm_icmp_gt C (pc := 93) (tgt := 109) dX11_busiest_93 (by decide) (fun hc => ?_) (fun hc => ?_)
          · replace hK := mm_ip hc hK
            refine mm_sub C [2, 3, 6, 1, 0] rfl ?_
            exact w_X11_busiest_109 hd C (fun z0 z1 z2 z3 z4 z5 hK => ih z0 z1 z2 z3 z4 z5 hK) _ _ _ _ _ _ hK
          · replace hK := mm_in hc hK
            refine mm_iload C (pc := 96) 0 dX11_busiest_96 rfl ?_
            refine mm_iload_n C (pc := 98) 4 dX11_busiest_98 rfl ?_
            refine mm_icmp_ne C (pc := 99) (tgt := 116) dX11_busiest_99 (by decide) (fun hc => ?_) (fun hc => ?_)
            · replace hK := mm_in hc hK
              refine mm_sub C [2, 3, 4, 5, 6] rfl ?_
              exact w_X11_busiest_116 hd C (fun z0 z1 z2 z3 z4 z5 hK => ih z0 z1 z2 z3 z4 z5 hK) _ _ _ _ _ _ hK
            · replace hK := mm_ip hc hK
              refine mm_iload C (pc := 102) 1 dX11_busiest_102 rfl ?_
              refine mm_iload C (pc := 104) 5 dX11_busiest_104 rfl ?_
              refine mm_icmp_ge C (pc := 106) (tgt := 116) dX11_busiest_106 (by decide) (fun hc => ?_) (fun hc => ?_)
              · replace hK := mm_ip hc hK
                refine mm_sub C [2, 3, 4, 5, 6] rfl ?_
                exact w_X11_busiest_116 hd C (fun z0 z1 z2 z3 z4 z5 hK => ih z0 z1 z2 z3 z4 z5 hK) _ _ _ _ _ _ hK
              · replace hK := mm_in hc hK
                refine mm_sub C [2, 3, 6, 1, 0] rfl ?_
                exact w_X11_busiest_109 hd C (fun z0 z1 z2 z3 z4 z5 hK => ih z0 z1 z2 z3 z4 z5 hK) _ _ _ _ _ _ hK
def F_X11_busiest (a0 : Option Nat) (a1 : Int32) (h : MH) : Option ((String ⊕ Int32) × MH) := mm_b3 (F_X11_needMinutes a1 h) fun _ h1 => mm_b2 (cV h1 a0 11 (F_X11_foresee a0 a1 h1)) fun v6 h6 => (gR h6 a0 11 5).bind fun v11 => mm_b2 (cV h6 v11 0 (F_X0_minute v11 h6)) fun v14 h14 => mm_b2 (cV h14 a0 11 (F_X11_cordsInUse a0 v14 h14)) fun v20 h20 => F_X11_busiest_30 mm_N a0 v14 v20 (0 : Int32) (0 : Int32) h20
set_option maxRecDepth 20000 in
set_option maxHeartbeats 4000000 in
theorem S_X11_busiest {d : Nat} (hd : 8 ≤ d) {a0 : Option Nat} {a1 : Int32} {h : MH} {r : String ⊕ Int32} {hz : MH} (hK : F_X11_busiest a0 a1 h = some (r, hz)) : mm_M yX11_busiest cX11_busiest 8 (some .int) d [va_rf a0, .int a1] h (mm_oi r) hz := by
  refine mm_ofV (by decide +kernel) (by simp [lg_sl, mm_crf, mm_cti, mm_ctl]) (fun V C => ?_)
  rw [show lv_args 0 [va_rf a0, .int a1] = [(0, va_rf a0), (1, .int a1)] by simp [lv_args, mm_crf, mm_cti, mm_ctl]]
  unfold F_X11_busiest at hK
  refine mm_iload_n C (pc := 0) 1 dX11_busiest_0 rfl ?_
  replace hK := mm_b3s hK; rcases hK with ⟨E1, e1, rfl⟩ | ⟨v1, h1, e1, hK⟩
  · skip
    exact mm_callSX C (pc := 1) (d1 := 7) (As := [.int a1]) (st := []) ((S_X11_needMinutes (by omega)) e1) tT_X11_needMinutes wd_1628 wd_1629 (by omega) (by decide) rfl (by simp [mm_crf, mm_cti, mm_ctl]) rfl dX11_busiest_1 rfl rfl
  refine mm_callS C (pc := 1) (d1 := 7) (As := [.int a1]) (st := []) (vk := none) ((S_X11_needMinutes (by omega)) e1) tT_X11_needMinutes wd_1628 wd_1629 (by omega) (by decide) rfl (by simp [mm_crf, mm_cti, mm_ctl]) rfl dX11_busiest_1 ?_
  show V _ _ [] _
  refine mm_aload_n C (pc := 4) 0 dX11_busiest_4 rfl ?_
  refine mm_iload_n C (pc := 5) 1 dX11_busiest_5 rfl ?_
  replace hK := mm_b2s hK; obtain ⟨v6, h6, e6, hK⟩ := hK
  obtain ⟨o6, e6⟩ := cV_some e6
  refine mm_callV C (pc := 6) (d1 := 6) (As := [.int a1]) (st := []) (vk := (some (.int v6))) ((S_X11_foresee (by omega)) e6) tT_X11_foresee o6 (Or.inr ⟨_, rfl, rfl⟩) wd_972 wd_974 wd_7 (by omega) (by decide) rfl (by simp [mm_crf, mm_cti, mm_ctl]) rfl dX11_busiest_6 ?_
  show V _ _ (.int v6 :: _) _
  refine mm_pop C (pc := 9) dX11_busiest_9 rfl ?_
  refine mm_aload_n C (pc := 10) 0 dX11_busiest_10 rfl ?_
  replace hK := mm_bd hK; obtain ⟨v11, e11, hK⟩ := hK
  refine mm_getr C (pc := 11) (k := 5) inGX11 rfl (by decide) wd_850 dX11_busiest_11 e11 ?_
  replace hK := mm_b2s hK; obtain ⟨v14, h14, e14, hK⟩ := hK
  obtain ⟨o14, e14⟩ := cV_some e14
  refine mm_callV C (pc := 14) (d1 := 1) (As := []) (st := []) (vk := (some (.int v14))) ((S_X0_minute (by omega)) e14) tT_X0_minute o14 (Or.inr ⟨_, rfl, rfl⟩) wd_1150 wd_937 wd_938 (by omega) (by decide) rfl (by simp [mm_crf, mm_cti, mm_ctl]) rfl dX11_busiest_14 ?_
  show V _ _ (.int v14 :: _) _
  refine mm_istore_n C (pc := 17) (i := 2) (lv' := [(2, .int v14), (0, va_rf a0), (1, .int a1)]) dX11_busiest_17 rfl (by decide) rfl ?_
  refine mm_aload_n C (pc := 18) 1 dX11_busiest_18 rfl ?_
  refine mm_iload_n C (pc := 19) 0 dX11_busiest_19 rfl ?_
  replace hK := mm_b2s hK; obtain ⟨v20, h20, e20, hK⟩ := hK
  obtain ⟨o20, e20⟩ := cV_some e20
  refine mm_callV C (pc := 20) (d1 := 3) (As := [.int v14]) (st := []) (vk := (some (.int v20))) ((S_X11_cordsInUse (by omega)) e20) tT_X11_cordsInUse o20 (Or.inr ⟨_, rfl, rfl⟩) wd_1658 wd_1660 wd_43 (by omega) (by decide) rfl (by simp [mm_crf, mm_cti, mm_ctl]) rfl dX11_busiest_20 ?_
  show V _ _ (.int v20 :: _) _
  refine mm_istore_n C (pc := 23) (i := 3) (lv' := [(3, .int v20), (2, .int v14), (0, va_rf a0), (1, .int a1)]) dX11_busiest_23 rfl (by decide) rfl ?_
  refine mm_iconst C (pc := 24) (v := (0 : Int32)) dX11_busiest_24 (by decide) ?_
  refine mm_istore C (pc := 25) (i := 4) (lv' := [(4, .int (0 : Int32)), (3, .int v20), (2, .int v14), (0, va_rf a0), (1, .int a1)]) dX11_busiest_25 (by decide) rfl ?_
  refine mm_iconst C (pc := 27) (v := (0 : Int32)) dX11_busiest_27 (by decide) ?_
  refine mm_istore C (pc := 28) (i := 5) (lv' := [(5, .int (0 : Int32)), (4, .int (0 : Int32)), (3, .int v20), (2, .int v14), (0, va_rf a0), (1, .int a1)]) dX11_busiest_28 (by decide) rfl ?_
  refine mm_sub C [4, 3, 2, 1, 0] rfl ?_
  exact w_X11_busiest_30 hd C _ _ _ _ _ _ _ hK
def F_X0_neverBegin (a0 : Option Nat) (a1 : Int32) (h : MH) : Option MH := (cV h a0 0 (F_X0_setFact a0 a1 (4 : Int32) (2 : Int32) h)).bind fun h4 => some h4
set_option maxRecDepth 20000 in
set_option maxHeartbeats 4000000 in
theorem S_X0_neverBegin {d : Nat} (hd : 2 ≤ d) {a0 : Option Nat} {a1 : Int32} {h : MH} {hz : MH} (hK : F_X0_neverBegin a0 a1 h = some hz) : mm_M yX0_neverBegin cX0_neverBegin 2 none d [va_rf a0, .int a1] h (.inr none) hz := by
  refine mm_ofV (by decide +kernel) (by simp [lg_sl, mm_crf, mm_cti, mm_ctl]) (fun V C => ?_)
  rw [show lv_args 0 [va_rf a0, .int a1] = [(0, va_rf a0), (1, .int a1)] by simp [lv_args, mm_crf, mm_cti, mm_ctl]]
  unfold F_X0_neverBegin at hK
  refine mm_aload_n C (pc := 0) 0 dX0_neverBegin_0 rfl ?_
  refine mm_iload_n C (pc := 1) 1 dX0_neverBegin_1 rfl ?_
  refine mm_iconst C (pc := 2) (v := (4 : Int32)) dX0_neverBegin_2 (by decide) ?_
  refine mm_iconst C (pc := 3) (v := (2 : Int32)) dX0_neverBegin_3 (by decide) ?_
  replace hK := mm_bd hK; obtain ⟨h4, e4, hK⟩ := hK
  obtain ⟨o4, e4⟩ := cV_some e4
  refine mm_callV C (pc := 4) (d1 := 1) (As := [.int a1, .int (4 : Int32), .int (2 : Int32)]) (st := []) (vk := none) ((S_X0_setFact (by omega)) e4) tT_X0_setFact o4 (Or.inr ⟨_, rfl, rfl⟩) wd_944 wd_946 wd_6 (by omega) (by decide) rfl (by simp [mm_crf, mm_cti, mm_ctl]) rfl dX0_neverBegin_4 ?_
  show V _ _ [] _
  cases hK
  exact mm_vret C (pc := 7) rfl dX0_neverBegin_7 rfl rfl
theorem wd_1675 : Cond.methodLink RX11 284 yX0_bitsOf ∈ lw_good := mm_wd 1675 (by decide +kernel) (by decide +kernel)
theorem wd_1679 : Cond.code yX0_neverBegin cX0_neverBegin 2 none ∈ lw_good := mm_wd 1679 (by decide +kernel) (by decide +kernel)
theorem tT_X0_neverBegin : mm_T yX0_neverBegin cX0_neverBegin 2 none 1 := ⟨wd_1679, wd_150, by decide +kernel, by decide +kernel, by decide +kernel, by decide +kernel⟩
theorem wd_1676 : Cond.methodLink RX11 287 yX0_neverBegin ∈ lw_good := mm_wd 1676 (by decide +kernel) (by decide +kernel)
theorem wd_1677 : Cond.instanceMethod yX0_neverBegin ∈ lw_good := mm_wd 1677 (by decide +kernel) (by decide +kernel)
theorem wd_1678 : Cond.selects RX0 yX0_neverBegin yX0_neverBegin ∈ lw_good := mm_wd 1678 (by decide +kernel) (by decide +kernel)
def F_X11_hog_120 (k28 : Option Nat → Int32 → Int32 → Int32 → Int32 → Int32 → Int32 → MH → Option ((String ⊕ Int32) × MH)) (l0 : Option Nat) (l1 : Int32) (l2 : Int32) (l3 : Int32) (l4 : Int32) (l5 : Int32) (l6 : Int32) (h : MH) : Option ((String ⊕ Int32) × MH) := k28 l0 l1 l2 l3 l4 l5 (l6 + (1 : Int32)) h
set_option maxRecDepth 20000 in
set_option maxHeartbeats 4000000 in
theorem w_X11_hog_120 {d : Nat} {V : Nat → List (Nat × Value) → List Value → MH → Prop} {r : String ⊕ Int32} {hz : MH} {k28 : Option Nat → Int32 → Int32 → Int32 → Int32 → Int32 → Int32 → MH → Option ((String ⊕ Int32) × MH)} (hd : 8 ≤ d) (C : mm_C d yX11_hog cX11_hog 9 (some .int) (mm_oi r) hz V) (q28 : ∀ (x0 : Option Nat) (x1 : Int32) (x2 : Int32) (x3 : Int32) (x4 : Int32) (x5 : Int32) (x6 : Int32) (h : MH), k28 x0 x1 x2 x3 x4 x5 x6 h = some (r, hz) → V 28 [(0, va_rf x0), (1, .int x1), (2, .int x2), (3, .int x3), (4, .int x4), (5, .int x5), (6, .int x6)] [] h) (l0 : Option Nat) (l1 : Int32) (l2 : Int32) (l3 : Int32) (l4 : Int32) (l5 : Int32) (l6 : Int32) (h : MH) (hK : F_X11_hog_120 k28 l0 l1 l2 l3 l4 l5 l6 h = some (r, hz)) : V 120 [(0, va_rf l0), (1, .int l1), (2, .int l2), (3, .int l3), (4, .int l4), (5, .int l5), (6, .int l6)] [] h := by
  unfold F_X11_hog_120 at hK
  refine mm_iinc C (pc := 120) (v := (l6 + (1 : Int32))) (lv' := [(6, .int (l6 + (1 : Int32))), (0, va_rf l0), (1, .int l1), (2, .int l2), (3, .int l3), (4, .int l4), (5, .int l5)]) 6 dX11_hog_120 rfl rfl (by decide) rfl ?_
  refine mm_goto C (pc := 123) (tgt := 28) dX11_hog_123 (by decide) ?_
  refine mm_sub C [1, 2, 3, 4, 5, 6, 0] rfl ?_
  exact q28 _ _ _ _ _ _ _ _ hK
def F_X11_hog_112 (k28 : Option Nat → Int32 → Int32 → Int32 → Int32 → Int32 → Int32 → MH → Option ((String ⊕ Int32) × MH)) (l0 : Option Nat) (l1 : Int32) (l2 : Int32) (l3 : Int32) (l6 : Int32) (l8 : Int32) (h : MH) : Option ((String ⊕ Int32) × MH) := F_X11_hog_120 k28 l0 l1 l2 l3 l6 l8 l6 h
set_option maxRecDepth 20000 in
set_option maxHeartbeats 4000000 in
theorem w_X11_hog_112 {d : Nat} {V : Nat → List (Nat × Value) → List Value → MH → Prop} {r : String ⊕ Int32} {hz : MH} {k28 : Option Nat → Int32 → Int32 → Int32 → Int32 → Int32 → Int32 → MH → Option ((String ⊕ Int32) × MH)} (hd : 8 ≤ d) (C : mm_C d yX11_hog cX11_hog 9 (some .int) (mm_oi r) hz V) (q28 : ∀ (x0 : Option Nat) (x1 : Int32) (x2 : Int32) (x3 : Int32) (x4 : Int32) (x5 : Int32) (x6 : Int32) (h : MH), k28 x0 x1 x2 x3 x4 x5 x6 h = some (r, hz) → V 28 [(0, va_rf x0), (1, .int x1), (2, .int x2), (3, .int x3), (4, .int x4), (5, .int x5), (6, .int x6)] [] h) (l0 : Option Nat) (l1 : Int32) (l2 : Int32) (l3 : Int32) (l6 : Int32) (l8 : Int32) (h : MH) (hK : F_X11_hog_112 k28 l0 l1 l2 l3 l6 l8 h = some (r, hz)) : V 112 [(0, va_rf l0), (1, .int l1), (2, .int l2), (3, .int l3), (6, .int l6), (8, .int l8)] [] h := by
  unfold F_X11_hog_112 at hK
  refine mm_iload C (pc := 112) 4 dX11_hog_112 rfl ?_
  refine mm_istore C (pc := 114) (i := 4) (lv' := [(4, .int l6), (0, va_rf l0), (1, .int l1), (2, .int l2), (3, .int l3), (6, .int l6), (8, .int l8)]) dX11_hog_114 (by decide) rfl ?_
  refine mm_iload C (pc := 116) 6 dX11_hog_116 rfl ?_
  refine mm_istore C (pc := 118) (i := 5) (lv' := [(5, .int l8), (4, .int l6), (0, va_rf l0), (1, .int l1), (2, .int l2), (3, .int l3), (6, .int l6), (8, .int l8)]) dX11_hog_118 (by decide) rfl ?_
  refine mm_sub C [2, 3, 4, 5, 1, 0, 6] rfl ?_
  exact w_X11_hog_120 hd C (fun z0 z1 z2 z3 z4 z5 z6 z7 hK => q28 z0 z1 z2 z3 z4 z5 z6 z7 hK) _ _ _ _ _ _ _ _ hK
def F_X11_hog_28 : Nat → Option Nat → Int32 → Int32 → Int32 → Int32 → Int32 → Int32 → MH → Option ((String ⊕ Int32) × MH)
  | 0 => fun _ _ _ _ _ _ _ _ => none
  | n + 1 => fun l0 l1 l2 l3 l4 l5 l6 h => (gR h l0 11 5).bind fun v31 => mm_b2 (cV h v31 0 (F_X0_calls v31 h)) fun v34 h34 => if v34 ≤ l6 then (some (.inr l4, h34)) else ((gR h34 l0 11 5).bind fun v41 => mm_b2 (cV h34 v41 0 (F_X0_isToCome v41 l6 h34)) fun v46 h46 => if v46 = 0 then (F_X11_hog_120 (F_X11_hog_28 n) l0 l1 l2 l3 l4 l5 l6 h46) else ((gR h46 l0 11 7).bind fun v63 => (gR h46 l0 11 5).bind fun v67 => (cV h46 v63 0 (F_X0_become v63 v67 h46)).bind fun h70 => (gR h70 l0 11 7).bind fun v74 => (cV h70 v74 0 (F_X0_neverBegin v74 l6 h70)).bind fun h79 => (gR h79 l0 11 7).bind fun v83 => mm_b2 (cV h79 v83 0 (F_X0_pass v83 l1 h79)) fun v87 h87 => if (l2 - ((l3 >>> (l6 &&& 31)) &&& (1 : Int32))) ≤ v87 then (F_X11_hog_120 (F_X11_hog_28 n) l0 l1 l2 l3 l4 l5 l6 h87) else (if l4 = ((-1) : Int32) then (F_X11_hog_112 (F_X11_hog_28 n) l0 l1 l2 l3 l6 v87 h87) else (if l5 ≤ v87 then (F_X11_hog_120 (F_X11_hog_28 n) l0 l1 l2 l3 l4 l5 l6 h87) else (F_X11_hog_112 (F_X11_hog_28 n) l0 l1 l2 l3 l6 v87 h87)))))
set_option maxRecDepth 20000 in
set_option maxHeartbeats 4000000 in
theorem w_X11_hog_28 {d : Nat} {V : Nat → List (Nat × Value) → List Value → MH → Prop} {r : String ⊕ Int32} {hz : MH} (hd : 8 ≤ d) (C : mm_C d yX11_hog cX11_hog 9 (some .int) (mm_oi r) hz V) : ∀ (n : Nat) (l0 : Option Nat) (l1 : Int32) (l2 : Int32) (l3 : Int32) (l4 : Int32) (l5 : Int32) (l6 : Int32) (h : MH), F_X11_hog_28 n l0 l1 l2 l3 l4 l5 l6 h = some (r, hz) → V 28 [(0, va_rf l0), (1, .int l1), (2, .int l2), (3, .int l3), (4, .int l4), (5, .int l5), (6, .int l6)] [] h := by
  intro n
  induction n with
  | zero => intro l0 l1 l2 l3 l4 l5 l6 h hK; cases hK
  | succ n ih =>
    intro l0 l1 l2 l3 l4 l5 l6 h hK
    replace hK : ((gR h l0 11 5).bind fun v31 => mm_b2 (cV h v31 0 (F_X0_calls v31 h)) fun v34 h34 => if v34 ≤ l6 then (some (.inr l4, h34)) else ((gR h34 l0 11 5).bind fun v41 => mm_b2 (cV h34 v41 0 (F_X0_isToCome v41 l6 h34)) fun v46 h46 => if v46 = 0 then (F_X11_hog_120 (F_X11_hog_28 n) l0 l1 l2 l3 l4 l5 l6 h46) else ((gR h46 l0 11 7).bind fun v63 => (gR h46 l0 11 5).bind fun v67 => (cV h46 v63 0 (F_X0_become v63 v67 h46)).bind fun h70 => (gR h70 l0 11 7).bind fun v74 => (cV h70 v74 0 (F_X0_neverBegin v74 l6 h70)).bind fun h79 => (gR h79 l0 11 7).bind fun v83 => mm_b2 (cV h79 v83 0 (F_X0_pass v83 l1 h79)) fun v87 h87 => if (l2 - ((l3 >>> (l6 &&& 31)) &&& (1 : Int32))) ≤ v87 then (F_X11_hog_120 (F_X11_hog_28 n) l0 l1 l2 l3 l4 l5 l6 h87) else (if l4 = ((-1) : Int32) then (F_X11_hog_112 (F_X11_hog_28 n) l0 l1 l2 l3 l6 v87 h87) else (if l5 ≤ v87 then (F_X11_hog_120 (F_X11_hog_28 n) l0 l1 l2 l3 l4 l5 l6 h87) else (F_X11_hog_112 (F_X11_hog_28 n) l0 l1 l2 l3 l6 v87 h87)))))) = some (r, hz) := hK
    refine mm_iload C (pc := 28) 6 dX11_hog_28 rfl ?_
    refine mm_aload_n C (pc := 30) 0 dX11_hog_30 rfl ?_
    replace hK := mm_bd hK; obtain ⟨v31, e31, hK⟩ := hK
    refine mm_getr C (pc := 31) (k := 5) inGX11 rfl (by decide) wd_850 dX11_hog_31 e31 ?_
    replace hK := mm_b2s hK; obtain ⟨v34, h34, e34, hK⟩ := hK
    obtain ⟨o34, e34⟩ := cV_some e34
    refine mm_callV C (pc := 34) (d1 := 1) (As := []) (st := [.int l6]) (vk := (some (.int v34))) ((S_X0_calls (by omega)) e34) tT_X0_calls o34 (Or.inr ⟨_, rfl, rfl⟩) wd_1075 wd_919 wd_920 (by omega) (by decide) rfl (by simp [mm_crf, mm_cti, mm_ctl]) rfl dX11_hog_34 ?_
    show V _ _ (.int v34 :: _) _
    refine mm_icmp_ge C (pc := 37) (tgt := 126) dX11_hog_37 (by decide) (fun hc => ?_) (fun hc => ?_)
    · replace hK := mm_ip hc hK
      refine mm_iload C (pc := 126) 4 dX11_hog_126 rfl ?_
      cases hK
      exact mm_iret C (pc := 128) rfl dX11_hog_128 rfl rfl
    · replace hK := mm_in hc hK
      refine mm_aload_n C (pc := 40) 0 dX11_hog_40 rfl ?_
      replace hK := mm_bd hK; obtain ⟨v41, e41, hK⟩ := hK
      refine mm_getr C (pc := 41) (k := 5) inGX11 rfl (by decide) wd_850 dX11_hog_41 e41 ?_
      refine mm_iload C (pc := 44) 6 dX11_hog_44 rfl ?_
      replace hK := mm_b2s hK; obtain ⟨v46, h46, e46, hK⟩ := hK
      obtain ⟨o46, e46⟩ := cV_some e46
      refine mm_callV C (pc := 46) (d1 := 2) (As := [.int l6]) (st := []) (vk := (some (.int v46))) ((S_X0_isToCome (by omega)) e46) tT_X0_isToCome o46 (Or.inr ⟨_, rfl, rfl⟩) wd_1076 wd_991 wd_992 (by omega) (by decide) rfl (by simp [mm_crf, mm_cti, mm_ctl]) rfl dX11_hog_46 ?_
      show V _ _ (.int v46 :: _) _
      refine mm_if_eq C (pc := 49) (tgt := 120) dX11_hog_49 (by decide) (fun hc => ?_) (fun hc => ?_)
      · replace hK := mm_ip hc hK
        exact w_X11_hog_120 hd C (fun z0 z1 z2 z3 z4 z5 z6 z7 hK => ih z0 z1 z2 z3 z4 z5 z6 z7 hK) _ _ _ _ _ _ _ _ hK
      · replace hK := mm_in hc hK
        refine mm_iload_n C (pc := 52) 2 dX11_hog_52 rfl ?_
        refine mm_iload_n C (pc := 53) 3 dX11_hog_53 rfl ?_
        refine mm_iload C (pc := 54) 6 dX11_hog_54 rfl ?_
        refine mm_ishr C (pc := 56) dX11_hog_56 ?_
        refine mm_iconst C (pc := 57) (v := (1 : Int32)) dX11_hog_57 (by decide) ?_
        refine mm_iand C (pc := 58) dX11_hog_58 ?_
        refine mm_isub C (pc := 59) dX11_hog_59 ?_
        refine mm_istore C (pc := 60) (i := 7) (lv' := [(7, .int (l2 - ((l3 >>> (l6 &&& 31)) &&& (1 : Int32)))), (0, va_rf l0), (1, .int l1), (2, .int l2), (3, .int l3), (4, .int l4), (5, .int l5), (6, .int l6)]) dX11_hog_60 (by decide) rfl ?_
        refine mm_aload_n C (pc := 62) 1 dX11_hog_62 rfl ?_
        replace hK := mm_bd hK; obtain ⟨v63, e63, hK⟩ := hK
        refine mm_getr C (pc := 63) (k := 7) inGX11 rfl (by decide) wd_852 dX11_hog_63 e63 ?_
        refine mm_aload_n C (pc := 66) 1 dX11_hog_66 rfl ?_
        replace hK := mm_bd hK; obtain ⟨v67, e67, hK⟩ := hK
        refine mm_getr C (pc := 67) (k := 5) inGX11 rfl (by decide) wd_850 dX11_hog_67 e67 ?_
        replace hK := mm_bd hK; obtain ⟨h70, e70, hK⟩ := hK
        obtain ⟨o70, e70⟩ := cV_some e70
        refine mm_callV C (pc := 70) (d1 := 1) (As := [va_rf v67]) (st := []) (vk := none) ((S_X0_become (by omega)) e70) tT_X0_become o70 (Or.inr ⟨_, rfl, rfl⟩) wd_976 wd_977 wd_978 (by omega) (by decide) rfl (by simp [mm_crf, mm_cti, mm_ctl]) rfl dX11_hog_70 ?_
        show V _ _ [] _
        refine mm_aload_n C (pc := 73) 1 dX11_hog_73 rfl ?_
        replace hK := mm_bd hK; obtain ⟨v74, e74, hK⟩ := hK
        refine mm_getr C (pc := 74) (k := 7) inGX11 rfl (by decide) wd_852 dX11_hog_74 e74 ?_
        refine mm_iload C (pc := 77) 7 dX11_hog_77 rfl ?_
        replace hK := mm_bd hK; obtain ⟨h79, e79, hK⟩ := hK
        obtain ⟨o79, e79⟩ := cV_some e79
        refine mm_callV C (pc := 79) (d1 := 2) (As := [.int l6]) (st := []) (vk := none) ((S_X0_neverBegin (by omega)) e79) tT_X0_neverBegin o79 (Or.inr ⟨_, rfl, rfl⟩) wd_1676 wd_1677 wd_1678 (by omega) (by decide) rfl (by simp [mm_crf, mm_cti, mm_ctl]) rfl dX11_hog_79 ?_
        show V _ _ [] _
        refine mm_aload_n C (pc := 82) 1 dX11_hog_82 rfl ?_
        replace hK := mm_bd hK; obtain ⟨v83, e83, hK⟩ := hK
        refine mm_getr C (pc := 83) (k := 7) inGX11 rfl (by decide) wd_852 dX11_hog_83 e83 ?_
        refine mm_iload_n C (pc := 86) 2 dX11_hog_86 rfl ?_
        replace hK := mm_b2s hK; obtain ⟨v87, h87, e87, hK⟩ := hK
        obtain ⟨o87, e87⟩ := cV_some e87
        refine mm_callV C (pc := 87) (d1 := 5) (As := [.int l1]) (st := []) (vk := (some (.int v87))) ((S_X0_pass (by omega)) e87) tT_X0_pass o87 (Or.inr ⟨_, rfl, rfl⟩) wd_980 wd_981 wd_982 (by omega) (by decide) rfl (by simp [mm_crf, mm_cti, mm_ctl]) rfl dX11_hog_87 ?_
        show V _ _ (.int v87 :: _) _
        refine mm_istore C (pc := 90) (i := 8) (lv' := [(8, .int v87), (7, .int (l2 - ((l3 >>> (l6 &&& 31)) &&& (1 : Int32)))), (0, va_rf l0), (1, .int l1), (2, .int l2), (3, .int l3), (4, .int l4), (5, .int l5), (6, .int l6)]) dX11_hog_90 (by decide) rfl ?_
        refine mm_iload C (pc := 92) 0 dX11_hog_92 rfl ?_
        refine mm_iload C (pc := 94) 1 dX11_hog_94 rfl ?_
        refine mm_icmp_ge C (pc := 96) (tgt := 120) dX11_hog_96 (by decide) (fun hc => ?_) (fun hc => ?_)
        · replace hK := mm_ip hc hK
          refine mm_sub C [2, 3, 4, 5, 6, 7, 8] rfl ?_
          exact w_X11_hog_120 hd C (fun z0 z1 z2 z3 z4 z5 z6 z7 hK => ih z0 z1 z2 z3 z4 z5 z6 z7 hK) _ _ _ _ _ _ _ _ hK
        · replace hK := mm_in hc hK
          refine mm_iload C (pc := 99) 6 dX11_hog_99 rfl ?_
          refine mm_iconst C (pc := 101) (v := ((-1) : Int32)) dX11_hog_101 (by decide) ?_
          refine mm_icmp_eq C (pc := 102) (tgt := 112) dX11_hog_102 (by decide) (fun hc => ?_) (fun hc => ?_)
          · replace hK := mm_ip hc hK
            refine mm_sub C [2, 3, 4, 5, 8, 0] rfl ?_
            exact w_X11_hog_112 hd C (fun z0 z1 z2 z3 z4 z5 z6 z7 hK => ih z0 z1 z2 z3 z4 z5 z6 z7 hK) _ _ _ _ _ _ _ hK
          · replace hK := mm_in hc hK
            refine mm_iload C (pc := 105) 0 dX11_hog_105 rfl ?_
            refine mm_iload C (pc := 107) 7 dX11_hog_107 rfl ?_
            refine mm_icmp_ge C (pc := 109) (tgt := 120) dX11_hog_109 (by decide) (fun hc => ?_) (fun hc => ?_)
            · replace hK := mm_ip hc hK
              refine mm_sub C [2, 3, 4, 5, 6, 7, 8] rfl ?_
              exact w_X11_hog_120 hd C (fun z0 z1 z2 z3 z4 z5 z6 z7 hK => ih z0 z1 z2 z3 z4 z5 z6 z7 hK) _ _ _ _ _ _ _ _ hK
            · replace hK := mm_in hc hK
              refine mm_sub C [2, 3, 4, 5, 8, 0] rfl ?_
              exact w_X11_hog_112 hd C (fun z0 z1 z2 z3 z4 z5 z6 z7 hK => ih z0 z1 z2 z3 z4 z5 z6 z7 hK) _ _ _ _ _ _ _ hK
def F_X11_hog (a0 : Option Nat) (a1 : Int32) (h : MH) : Option ((String ⊕ Int32) × MH) := mm_b3 (F_X11_needMinutes a1 h) fun _ h1 => mm_b2 (cV h1 a0 11 (F_X11_foresee a0 a1 h1)) fun v6 h6 => (gR h6 a0 11 7).bind fun v11 => mm_b2 (cV h6 v11 0 (F_X0_bitsOf v11 (3 : Int32) h6)) fun v15 h15 => F_X11_hog_28 mm_N a0 a1 v6 v15 ((-1) : Int32) (0 : Int32) (0 : Int32) h15
set_option maxRecDepth 20000 in
set_option maxHeartbeats 4000000 in
theorem S_X11_hog {d : Nat} (hd : 8 ≤ d) {a0 : Option Nat} {a1 : Int32} {h : MH} {r : String ⊕ Int32} {hz : MH} (hK : F_X11_hog a0 a1 h = some (r, hz)) : mm_M yX11_hog cX11_hog 9 (some .int) d [va_rf a0, .int a1] h (mm_oi r) hz := by
  refine mm_ofV (by decide +kernel) (by simp [lg_sl, mm_crf, mm_cti, mm_ctl]) (fun V C => ?_)
  rw [show lv_args 0 [va_rf a0, .int a1] = [(0, va_rf a0), (1, .int a1)] by simp [lv_args, mm_crf, mm_cti, mm_ctl]]
  unfold F_X11_hog at hK
  refine mm_iload_n C (pc := 0) 1 dX11_hog_0 rfl ?_
  replace hK := mm_b3s hK; rcases hK with ⟨E1, e1, rfl⟩ | ⟨v1, h1, e1, hK⟩
  · skip
    exact mm_callSX C (pc := 1) (d1 := 7) (As := [.int a1]) (st := []) ((S_X11_needMinutes (by omega)) e1) tT_X11_needMinutes wd_1628 wd_1629 (by omega) (by decide) rfl (by simp [mm_crf, mm_cti, mm_ctl]) rfl dX11_hog_1 rfl rfl
  refine mm_callS C (pc := 1) (d1 := 7) (As := [.int a1]) (st := []) (vk := none) ((S_X11_needMinutes (by omega)) e1) tT_X11_needMinutes wd_1628 wd_1629 (by omega) (by decide) rfl (by simp [mm_crf, mm_cti, mm_ctl]) rfl dX11_hog_1 ?_
  show V _ _ [] _
  refine mm_aload_n C (pc := 4) 0 dX11_hog_4 rfl ?_
  refine mm_iload_n C (pc := 5) 1 dX11_hog_5 rfl ?_
  replace hK := mm_b2s hK; obtain ⟨v6, h6, e6, hK⟩ := hK
  obtain ⟨o6, e6⟩ := cV_some e6
  refine mm_callV C (pc := 6) (d1 := 6) (As := [.int a1]) (st := []) (vk := (some (.int v6))) ((S_X11_foresee (by omega)) e6) tT_X11_foresee o6 (Or.inr ⟨_, rfl, rfl⟩) wd_972 wd_974 wd_7 (by omega) (by decide) rfl (by simp [mm_crf, mm_cti, mm_ctl]) rfl dX11_hog_6 ?_
  show V _ _ (.int v6 :: _) _
  refine mm_istore_n C (pc := 9) (i := 2) (lv' := [(2, .int v6), (0, va_rf a0), (1, .int a1)]) dX11_hog_9 rfl (by decide) rfl ?_
  refine mm_aload_n C (pc := 10) 1 dX11_hog_10 rfl ?_
  replace hK := mm_bd hK; obtain ⟨v11, e11, hK⟩ := hK
  refine mm_getr C (pc := 11) (k := 7) inGX11 rfl (by decide) wd_852 dX11_hog_11 e11 ?_
  refine mm_iconst C (pc := 14) (v := (3 : Int32)) dX11_hog_14 (by decide) ?_
  replace hK := mm_b2s hK; obtain ⟨v15, h15, e15, hK⟩ := hK
  obtain ⟨o15, e15⟩ := cV_some e15
  refine mm_callV C (pc := 15) (d1 := 2) (As := [.int (3 : Int32)]) (st := []) (vk := (some (.int v15))) ((S_X0_bitsOf (by omega)) e15) tT_X0_bitsOf o15 (Or.inr ⟨_, rfl, rfl⟩) wd_1675 wd_1142 wd_1143 (by omega) (by decide) rfl (by simp [mm_crf, mm_cti, mm_ctl]) rfl dX11_hog_15 ?_
  show V _ _ (.int v15 :: _) _
  refine mm_istore_n C (pc := 18) (i := 3) (lv' := [(3, .int v15), (2, .int v6), (0, va_rf a0), (1, .int a1)]) dX11_hog_18 rfl (by decide) rfl ?_
  refine mm_iconst C (pc := 19) (v := ((-1) : Int32)) dX11_hog_19 (by decide) ?_
  refine mm_istore C (pc := 20) (i := 4) (lv' := [(4, .int ((-1) : Int32)), (3, .int v15), (2, .int v6), (0, va_rf a0), (1, .int a1)]) dX11_hog_20 (by decide) rfl ?_
  refine mm_iconst C (pc := 22) (v := (0 : Int32)) dX11_hog_22 (by decide) ?_
  refine mm_istore C (pc := 23) (i := 5) (lv' := [(5, .int (0 : Int32)), (4, .int ((-1) : Int32)), (3, .int v15), (2, .int v6), (0, va_rf a0), (1, .int a1)]) dX11_hog_23 (by decide) rfl ?_
  refine mm_iconst C (pc := 25) (v := (0 : Int32)) dX11_hog_25 (by decide) ?_
  refine mm_istore C (pc := 26) (i := 6) (lv' := [(6, .int (0 : Int32)), (5, .int (0 : Int32)), (4, .int ((-1) : Int32)), (3, .int v15), (2, .int v6), (0, va_rf a0), (1, .int a1)]) dX11_hog_26 (by decide) rfl ?_
  refine mm_sub C [5, 6, 4, 3, 2, 1, 0] rfl ?_
  exact w_X11_hog_28 hd C _ _ _ _ _ _ _ _ _ hK
theorem wd_1696 : Cond.methodLink RX4 71 yX1_start ∈ lw_good := mm_wd 1696 (by decide +kernel) (by decide +kernel)
theorem wd_1697 : Cond.methodLink RX4 74 yX1_many ∈ lw_good := mm_wd 1697 (by decide +kernel) (by decide +kernel)
theorem wd_1698 : Cond.methodLink RX4 78 yX1_callAt ∈ lw_good := mm_wd 1698 (by decide +kernel) (by decide +kernel)
theorem wd_1699 : Cond.methodLink RX4 82 yX0_fact ∈ lw_good := mm_wd 1699 (by decide +kernel) (by decide +kernel)
theorem wd_1700 : Cond.methodLink RX4 85 yX0_minute ∈ lw_good := mm_wd 1700 (by decide +kernel) (by decide +kernel)
theorem wd_1701 : Cond.methodLink RX4 88 yX1_areFree ∈ lw_good := mm_wd 1701 (by decide +kernel) (by decide +kernel)
def F_X4_ableCalls_96 (k12 : Option Nat → Option Nat → Int32 → Int32 → MH → Option (Int32 × MH)) (l0 : Option Nat) (l1 : Option Nat) (l2 : Int32) (l3 : Int32) (h : MH) : Option (Int32 × MH) := k12 l0 l1 l2 (l3 + (1 : Int32)) h
set_option maxRecDepth 20000 in
set_option maxHeartbeats 4000000 in
theorem w_X4_ableCalls_96 {d : Nat} {V : Nat → List (Nat × Value) → List Value → MH → Prop} {r : Int32} {hz : MH} {k12 : Option Nat → Option Nat → Int32 → Int32 → MH → Option (Int32 × MH)} (hd : 4 ≤ d) (C : mm_C d yX4_ableCalls cX4_ableCalls 7 (some .int) (.inr (some (.int r))) hz V) (q12 : ∀ (x0 : Option Nat) (x1 : Option Nat) (x2 : Int32) (x3 : Int32) (h : MH), k12 x0 x1 x2 x3 h = some (r, hz) → V 12 [(0, va_rf x0), (1, va_rf x1), (2, .int x2), (3, .int x3)] [] h) (l0 : Option Nat) (l1 : Option Nat) (l2 : Int32) (l3 : Int32) (h : MH) (hK : F_X4_ableCalls_96 k12 l0 l1 l2 l3 h = some (r, hz)) : V 96 [(0, va_rf l0), (1, va_rf l1), (2, .int l2), (3, .int l3)] [] h := by
  unfold F_X4_ableCalls_96 at hK
  refine mm_iinc C (pc := 96) (v := (l3 + (1 : Int32))) (lv' := [(3, .int (l3 + (1 : Int32))), (0, va_rf l0), (1, va_rf l1), (2, .int l2)]) 3 dX4_ableCalls_96 rfl rfl (by decide) rfl ?_
  refine mm_goto C (pc := 99) (tgt := 12) dX4_ableCalls_99 (by decide) ?_
  refine mm_sub C [1, 2, 3, 0] rfl ?_
  exact q12 _ _ _ _ _ hK
def F_X4_ableCalls_56 (k12 : Option Nat → Option Nat → Int32 → Int32 → MH → Option (Int32 × MH)) (l0 : Option Nat) (l1 : Option Nat) (l2 : Int32) (l3 : Int32) (l4 : Int32) (l5 : Int32) (s0 : Int32) (h : MH) : Option (Int32 × MH) := if s0 = 0 then (F_X4_ableCalls_96 k12 l0 l1 l2 l3 h) else ((gR h l0 4 0).bind fun v64 => mm_b2 (cV h l1 0 (F_X0_fact l1 l4 (0 : Int32) h)) fun v71 h71 => mm_b2 (cV h71 l1 0 (F_X0_fact l1 l4 (1 : Int32) h71)) fun v78 h78 => mm_b2 (cV h78 v64 1 (F_X1_areFree v64 v71 v78 l5 h78)) fun v83 h83 => if v83 = 0 then (F_X4_ableCalls_96 k12 l0 l1 l2 l3 h83) else (F_X4_ableCalls_96 k12 l0 l1 (l2 ||| ((1 : Int32) <<< (l4 &&& 31))) l3 h83))
set_option maxRecDepth 20000 in
set_option maxHeartbeats 4000000 in
theorem w_X4_ableCalls_56 {d : Nat} {V : Nat → List (Nat × Value) → List Value → MH → Prop} {r : Int32} {hz : MH} {k12 : Option Nat → Option Nat → Int32 → Int32 → MH → Option (Int32 × MH)} (hd : 4 ≤ d) (C : mm_C d yX4_ableCalls cX4_ableCalls 7 (some .int) (.inr (some (.int r))) hz V) (q12 : ∀ (x0 : Option Nat) (x1 : Option Nat) (x2 : Int32) (x3 : Int32) (h : MH), k12 x0 x1 x2 x3 h = some (r, hz) → V 12 [(0, va_rf x0), (1, va_rf x1), (2, .int x2), (3, .int x3)] [] h) (l0 : Option Nat) (l1 : Option Nat) (l2 : Int32) (l3 : Int32) (l4 : Int32) (l5 : Int32) (s0 : Int32) (h : MH) (hK : F_X4_ableCalls_56 k12 l0 l1 l2 l3 l4 l5 s0 h = some (r, hz)) : V 56 [(0, va_rf l0), (1, va_rf l1), (2, .int l2), (3, .int l3), (4, .int l4), (5, .int l5)] [.int s0] h := by
  unfold F_X4_ableCalls_56 at hK
  refine mm_istore C (pc := 56) (i := 6) (lv' := [(6, .int s0), (0, va_rf l0), (1, va_rf l1), (2, .int l2), (3, .int l3), (4, .int l4), (5, .int l5)]) dX4_ableCalls_56 (by decide) rfl ?_
  refine mm_iload C (pc := 58) 0 dX4_ableCalls_58 rfl ?_
  refine mm_if_eq C (pc := 60) (tgt := 96) dX4_ableCalls_60 (by decide) (fun hc => ?_) (fun hc => ?_)
  · replace hK := mm_ip hc hK
    refine mm_sub C [1, 2, 3, 4] rfl ?_
    exact w_X4_ableCalls_96 hd C (fun z0 z1 z2 z3 z4 hK => q12 z0 z1 z2 z3 z4 hK) _ _ _ _ _ hK
  · replace hK := mm_in hc hK
    refine mm_aload_n C (pc := 63) 1 dX4_ableCalls_63 rfl ?_
    replace hK := mm_bd hK; obtain ⟨v64, e64, hK⟩ := hK
    refine mm_getr C (pc := 64) (k := 0) inGX4 rfl (by decide) wd_237 dX4_ableCalls_64 e64 ?_
    refine mm_aload_n C (pc := 67) 2 dX4_ableCalls_67 rfl ?_
    refine mm_iload C (pc := 68) 5 dX4_ableCalls_68 rfl ?_
    refine mm_iconst C (pc := 70) (v := (0 : Int32)) dX4_ableCalls_70 (by decide) ?_
    replace hK := mm_b2s hK; obtain ⟨v71, h71, e71, hK⟩ := hK
    obtain ⟨o71, e71⟩ := cV_some e71
    refine mm_callV C (pc := 71) (d1 := 1) (As := [.int l4, .int (0 : Int32)]) (st := [va_rf v64]) (vk := (some (.int v71))) ((S_X0_fact (by omega)) e71) tT_X0_fact o71 (Or.inr ⟨_, rfl, rfl⟩) wd_1699 wd_961 wd_962 (by omega) (by decide) rfl (by simp [mm_crf, mm_cti, mm_ctl]) rfl dX4_ableCalls_71 ?_
    show V _ _ (.int v71 :: _) _
    refine mm_aload_n C (pc := 74) 2 dX4_ableCalls_74 rfl ?_
    refine mm_iload C (pc := 75) 5 dX4_ableCalls_75 rfl ?_
    refine mm_iconst C (pc := 77) (v := (1 : Int32)) dX4_ableCalls_77 (by decide) ?_
    replace hK := mm_b2s hK; obtain ⟨v78, h78, e78, hK⟩ := hK
    obtain ⟨o78, e78⟩ := cV_some e78
    refine mm_callV C (pc := 78) (d1 := 1) (As := [.int l4, .int (1 : Int32)]) (st := [.int v71, va_rf v64]) (vk := (some (.int v78))) ((S_X0_fact (by omega)) e78) tT_X0_fact o78 (Or.inr ⟨_, rfl, rfl⟩) wd_1699 wd_961 wd_962 (by omega) (by decide) rfl (by simp [mm_crf, mm_cti, mm_ctl]) rfl dX4_ableCalls_78 ?_
    show V _ _ (.int v78 :: _) _
    refine mm_iload C (pc := 81) 6 dX4_ableCalls_81 rfl ?_
    replace hK := mm_b2s hK; obtain ⟨v83, h83, e83, hK⟩ := hK
    obtain ⟨o83, e83⟩ := cV_some e83
    refine mm_callV C (pc := 83) (d1 := 2) (As := [.int v71, .int v78, .int l5]) (st := []) (vk := (some (.int v83))) ((S_X1_areFree (by omega)) e83) tT_X1_areFree o83 (Or.inr ⟨_, rfl, rfl⟩) wd_1701 wd_1044 wd_1045 (by omega) (by decide) rfl (by simp [mm_crf, mm_cti, mm_ctl]) rfl dX4_ableCalls_83 ?_
    show V _ _ (.int v83 :: _) _
    refine mm_if_eq C (pc := 86) (tgt := 96) dX4_ableCalls_86 (by decide) (fun hc => ?_) (fun hc => ?_)
    · replace hK := mm_ip hc hK
      refine mm_sub C [1, 2, 3, 4] rfl ?_
      exact w_X4_ableCalls_96 hd C (fun z0 z1 z2 z3 z4 hK => q12 z0 z1 z2 z3 z4 hK) _ _ _ _ _ hK
    · replace hK := mm_in hc hK
      refine mm_iload_n C (pc := 89) 3 dX4_ableCalls_89 rfl ?_
      refine mm_iconst C (pc := 90) (v := (1 : Int32)) dX4_ableCalls_90 (by decide) ?_
      refine mm_iload C (pc := 91) 5 dX4_ableCalls_91 rfl ?_
      refine mm_ishl C (pc := 93) dX4_ableCalls_93 ?_
      refine mm_ior C (pc := 94) dX4_ableCalls_94 ?_
      refine mm_istore_n C (pc := 95) (i := 2) (lv' := [(2, .int (l2 ||| ((1 : Int32) <<< (l4 &&& 31)))), (6, .int s0), (0, va_rf l0), (1, va_rf l1), (3, .int l3), (4, .int l4), (5, .int l5)]) dX4_ableCalls_95 rfl (by decide) (by simp [mm_crf]) ?_
      refine mm_sub C [2, 3, 0, 4] rfl ?_
      exact w_X4_ableCalls_96 hd C (fun z0 z1 z2 z3 z4 hK => q12 z0 z1 z2 z3 z4 hK) _ _ _ _ _ hK
def F_X4_ableCalls_12 : Nat → Option Nat → Option Nat → Int32 → Int32 → MH → Option (Int32 × MH)
  | 0 => fun _ _ _ _ _ => none
  | n + 1 => fun l0 l1 l2 l3 h => (gR h l0 4 0).bind fun v14 => mm_b2 (cV h v14 1 (F_X1_many v14 h)) fun v17 h17 => if v17 ≤ l3 then (some (l2, h17)) else ((gR h17 l0 4 0).bind fun v24 => mm_b2 (cV h17 v24 1 (F_X1_callAt v24 l3 h17)) fun v28 h28 => mm_b2 (cV h28 l1 0 (F_X0_fact l1 v28 (2 : Int32) h28)) fun v37 h37 => mm_b2 (cV h37 l1 0 (F_X0_minute l1 h37)) fun v45 h45 => if v37 < v45 then (F_X4_ableCalls_56 (F_X4_ableCalls_12 n) l0 l1 l2 l3 v28 v37 (0 : Int32) h45) else (F_X4_ableCalls_56 (F_X4_ableCalls_12 n) l0 l1 l2 l3 v28 v37 (1 : Int32) h45))
set_option maxRecDepth 20000 in
set_option maxHeartbeats 4000000 in
theorem w_X4_ableCalls_12 {d : Nat} {V : Nat → List (Nat × Value) → List Value → MH → Prop} {r : Int32} {hz : MH} (hd : 4 ≤ d) (C : mm_C d yX4_ableCalls cX4_ableCalls 7 (some .int) (.inr (some (.int r))) hz V) : ∀ (n : Nat) (l0 : Option Nat) (l1 : Option Nat) (l2 : Int32) (l3 : Int32) (h : MH), F_X4_ableCalls_12 n l0 l1 l2 l3 h = some (r, hz) → V 12 [(0, va_rf l0), (1, va_rf l1), (2, .int l2), (3, .int l3)] [] h := by
  intro n
  induction n with
  | zero => intro l0 l1 l2 l3 h hK; cases hK
  | succ n ih =>
    intro l0 l1 l2 l3 h hK
    replace hK : ((gR h l0 4 0).bind fun v14 => mm_b2 (cV h v14 1 (F_X1_many v14 h)) fun v17 h17 => if v17 ≤ l3 then (some (l2, h17)) else ((gR h17 l0 4 0).bind fun v24 => mm_b2 (cV h17 v24 1 (F_X1_callAt v24 l3 h17)) fun v28 h28 => mm_b2 (cV h28 l1 0 (F_X0_fact l1 v28 (2 : Int32) h28)) fun v37 h37 => mm_b2 (cV h37 l1 0 (F_X0_minute l1 h37)) fun v45 h45 => if v37 < v45 then (F_X4_ableCalls_56 (F_X4_ableCalls_12 n) l0 l1 l2 l3 v28 v37 (0 : Int32) h45) else (F_X4_ableCalls_56 (F_X4_ableCalls_12 n) l0 l1 l2 l3 v28 v37 (1 : Int32) h45))) = some (r, hz) := hK
    refine mm_iload_n C (pc := 12) 3 dX4_ableCalls_12 rfl ?_
    refine mm_aload_n C (pc := 13) 0 dX4_ableCalls_13 rfl ?_
    replace hK := mm_bd hK; obtain ⟨v14, e14, hK⟩ := hK
    refine mm_getr C (pc := 14) (k := 0) inGX4 rfl (by decide) wd_237 dX4_ableCalls_14 e14 ?_
    replace hK := mm_b2s hK; obtain ⟨v17, h17, e17, hK⟩ := hK
    obtain ⟨o17, e17⟩ := cV_some e17
    refine mm_callV C (pc := 17) (d1 := 1) (As := []) (st := [.int l3]) (vk := (some (.int v17))) ((S_X1_many (by omega)) e17) tT_X1_many o17 (Or.inr ⟨_, rfl, rfl⟩) wd_1697 wd_1018 wd_1019 (by omega) (by decide) rfl (by simp [mm_crf, mm_cti, mm_ctl]) rfl dX4_ableCalls_17 ?_
    show V _ _ (.int v17 :: _) _
    refine mm_icmp_ge C (pc := 20) (tgt := 102) dX4_ableCalls_20 (by decide) (fun hc => ?_) (fun hc => ?_)
    · replace hK := mm_ip hc hK
      refine mm_iload_n C (pc := 102) 2 dX4_ableCalls_102 rfl ?_
      cases hK
      exact mm_iret C (pc := 103) rfl dX4_ableCalls_103 rfl rfl
    · replace hK := mm_in hc hK
      refine mm_aload_n C (pc := 23) 0 dX4_ableCalls_23 rfl ?_
      replace hK := mm_bd hK; obtain ⟨v24, e24, hK⟩ := hK
      refine mm_getr C (pc := 24) (k := 0) inGX4 rfl (by decide) wd_237 dX4_ableCalls_24 e24 ?_
      refine mm_iload_n C (pc := 27) 3 dX4_ableCalls_27 rfl ?_
      replace hK := mm_b2s hK; obtain ⟨v28, h28, e28, hK⟩ := hK
      obtain ⟨o28, e28⟩ := cV_some e28
      refine mm_callV C (pc := 28) (d1 := 1) (As := [.int l3]) (st := []) (vk := (some (.int v28))) ((S_X1_callAt (by omega)) e28) tT_X1_callAt o28 (Or.inr ⟨_, rfl, rfl⟩) wd_1698 wd_1022 wd_1023 (by omega) (by decide) rfl (by simp [mm_crf, mm_cti, mm_ctl]) rfl dX4_ableCalls_28 ?_
      show V _ _ (.int v28 :: _) _
      refine mm_istore C (pc := 31) (i := 4) (lv' := [(4, .int v28), (0, va_rf l0), (1, va_rf l1), (2, .int l2), (3, .int l3)]) dX4_ableCalls_31 (by decide) rfl ?_
      refine mm_aload_n C (pc := 33) 2 dX4_ableCalls_33 rfl ?_
      refine mm_iload C (pc := 34) 0 dX4_ableCalls_34 rfl ?_
      refine mm_iconst C (pc := 36) (v := (2 : Int32)) dX4_ableCalls_36 (by decide) ?_
      replace hK := mm_b2s hK; obtain ⟨v37, h37, e37, hK⟩ := hK
      obtain ⟨o37, e37⟩ := cV_some e37
      refine mm_callV C (pc := 37) (d1 := 1) (As := [.int v28, .int (2 : Int32)]) (st := []) (vk := (some (.int v37))) ((S_X0_fact (by omega)) e37) tT_X0_fact o37 (Or.inr ⟨_, rfl, rfl⟩) wd_1699 wd_961 wd_962 (by omega) (by decide) rfl (by simp [mm_crf, mm_cti, mm_ctl]) rfl dX4_ableCalls_37 ?_
      show V _ _ (.int v37 :: _) _
      refine mm_istore C (pc := 40) (i := 5) (lv' := [(5, .int v37), (4, .int v28), (0, va_rf l0), (1, va_rf l1), (2, .int l2), (3, .int l3)]) dX4_ableCalls_40 (by decide) rfl ?_
      refine mm_iload C (pc := 42) 0 dX4_ableCalls_42 rfl ?_
      refine mm_aload_n C (pc := 44) 3 dX4_ableCalls_44 rfl ?_
      replace hK := mm_b2s hK; obtain ⟨v45, h45, e45, hK⟩ := hK
      obtain ⟨o45, e45⟩ := cV_some e45
      refine mm_callV C (pc := 45) (d1 := 1) (As := []) (st := [.int v37]) (vk := (some (.int v45))) ((S_X0_minute (by omega)) e45) tT_X0_minute o45 (Or.inr ⟨_, rfl, rfl⟩) wd_1700 wd_937 wd_938 (by omega) (by decide) rfl (by simp [mm_crf, mm_cti, mm_ctl]) rfl dX4_ableCalls_45 ?_
      show V _ _ (.int v45 :: _) _
      refine mm_icmp_lt C (pc := 48) (tgt := 55) dX4_ableCalls_48 (by decide) (fun hc => ?_) (fun hc => ?_)
      · replace hK := mm_ip hc hK
        refine mm_iconst C (pc := 55) (v := (0 : Int32)) dX4_ableCalls_55 (by decide) ?_
        refine mm_sub C [2, 3, 4, 5, 1, 0] rfl ?_
        exact w_X4_ableCalls_56 hd C (fun z0 z1 z2 z3 z4 hK => ih z0 z1 z2 z3 z4 hK) _ _ _ _ _ _ _ _ hK
      · replace hK := mm_in hc hK
        refine mm_iconst C (pc := 51) (v := (1 : Int32)) dX4_ableCalls_51 (by decide) ?_
        refine mm_goto C (pc := 52) (tgt := 56) dX4_ableCalls_52 (by decide) ?_
        refine mm_sub C [2, 3, 4, 5, 1, 0] rfl ?_
        exact w_X4_ableCalls_56 hd C (fun z0 z1 z2 z3 z4 hK => ih z0 z1 z2 z3 z4 hK) _ _ _ _ _ _ _ _ hK
def F_X4_ableCalls (a0 : Option Nat) (a1 : Option Nat) (h : MH) : Option (Int32 × MH) := (gR h a0 4 0).bind fun v1 => (cV h v1 1 (F_X1_start v1 a1 h)).bind fun h5 => F_X4_ableCalls_12 mm_N a0 a1 (0 : Int32) (0 : Int32) h5
set_option maxRecDepth 20000 in
set_option maxHeartbeats 4000000 in
theorem S_X4_ableCalls {d : Nat} (hd : 4 ≤ d) {a0 : Option Nat} {a1 : Option Nat} {h : MH} {r : Int32} {hz : MH} (hK : F_X4_ableCalls a0 a1 h = some (r, hz)) : mm_M yX4_ableCalls cX4_ableCalls 7 (some .int) d [va_rf a0, va_rf a1] h (.inr (some (.int r))) hz := by
  refine mm_ofV (by decide +kernel) (by simp [lg_sl, mm_crf, mm_cti, mm_ctl]) (fun V C => ?_)
  rw [show lv_args 0 [va_rf a0, va_rf a1] = [(0, va_rf a0), (1, va_rf a1)] by simp [lv_args, mm_crf, mm_cti, mm_ctl]]
  unfold F_X4_ableCalls at hK
  refine mm_aload_n C (pc := 0) 0 dX4_ableCalls_0 rfl ?_
  replace hK := mm_bd hK; obtain ⟨v1, e1, hK⟩ := hK
  refine mm_getr C (pc := 1) (k := 0) inGX4 rfl (by decide) wd_237 dX4_ableCalls_1 e1 ?_
  refine mm_aload_n C (pc := 4) 1 dX4_ableCalls_4 rfl ?_
  replace hK := mm_bd hK; obtain ⟨h5, e5, hK⟩ := hK
  obtain ⟨o5, e5⟩ := cV_some e5
  refine mm_callV C (pc := 5) (d1 := 3) (As := [va_rf a1]) (st := []) (vk := none) ((S_X1_start (by omega)) e5) tT_X1_start o5 (Or.inr ⟨_, rfl, rfl⟩) wd_1696 wd_985 wd_986 (by omega) (by decide) rfl (by simp [mm_crf, mm_cti, mm_ctl]) rfl dX4_ableCalls_5 ?_
  show V _ _ [] _
  refine mm_iconst C (pc := 8) (v := (0 : Int32)) dX4_ableCalls_8 (by decide) ?_
  refine mm_istore_n C (pc := 9) (i := 2) (lv' := [(2, .int (0 : Int32)), (0, va_rf a0), (1, va_rf a1)]) dX4_ableCalls_9 rfl (by decide) (by simp [mm_crf]) ?_
  refine mm_iconst C (pc := 10) (v := (0 : Int32)) dX4_ableCalls_10 (by decide) ?_
  refine mm_istore_n C (pc := 11) (i := 3) (lv' := [(3, .int (0 : Int32)), (2, .int (0 : Int32)), (0, va_rf a0), (1, va_rf a1)]) dX4_ableCalls_11 rfl (by decide) rfl ?_
  refine mm_sub C [2, 3, 1, 0] rfl ?_
  exact w_X4_ableCalls_12 hd C _ _ _ _ _ _ hK
theorem wd_1706 : Cond.methodLink RX4 92 yX0_calls ∈ lw_good := mm_wd 1706 (by decide +kernel) (by decide +kernel)
theorem wd_820 : Cond.fieldLink RX4 41 "CrossedLines$Board" "plan" "LCrossedLines$Plan;" ∈ lw_good := mm_wd 820 (by decide +kernel) (by decide +kernel)
theorem wd_1707 : Cond.methodLink RX4 95 yX8_reaches ∈ lw_good := mm_wd 1707 (by decide +kernel) (by decide +kernel)
theorem wd_1708 : Cond.methodLink RX4 98 yX1_isCordFree ∈ lw_good := mm_wd 1708 (by decide +kernel) (by decide +kernel)
def F_X4_takenBy_68 (k5 : Option Nat → Option Nat → Int32 → Int32 → Int32 → MH → Option (Int32 × MH)) (l0 : Option Nat) (l1 : Option Nat) (l2 : Int32) (l3 : Int32) (l4 : Int32) (h : MH) : Option (Int32 × MH) := k5 l0 l1 l2 l3 (l4 + (1 : Int32)) h
set_option maxRecDepth 20000 in
set_option maxHeartbeats 4000000 in
theorem w_X4_takenBy_68 {d : Nat} {V : Nat → List (Nat × Value) → List Value → MH → Prop} {r : Int32} {hz : MH} {k5 : Option Nat → Option Nat → Int32 → Int32 → Int32 → MH → Option (Int32 × MH)} (hd : 2 ≤ d) (C : mm_C d yX4_takenBy cX4_takenBy 6 (some .int) (.inr (some (.int r))) hz V) (q5 : ∀ (x0 : Option Nat) (x1 : Option Nat) (x2 : Int32) (x3 : Int32) (x4 : Int32) (h : MH), k5 x0 x1 x2 x3 x4 h = some (r, hz) → V 5 [(0, va_rf x0), (1, va_rf x1), (2, .int x2), (3, .int x3), (4, .int x4)] [] h) (l0 : Option Nat) (l1 : Option Nat) (l2 : Int32) (l3 : Int32) (l4 : Int32) (h : MH) (hK : F_X4_takenBy_68 k5 l0 l1 l2 l3 l4 h = some (r, hz)) : V 68 [(0, va_rf l0), (1, va_rf l1), (2, .int l2), (3, .int l3), (4, .int l4)] [] h := by
  unfold F_X4_takenBy_68 at hK
  refine mm_iinc C (pc := 68) (v := (l4 + (1 : Int32))) (lv' := [(4, .int (l4 + (1 : Int32))), (0, va_rf l0), (1, va_rf l1), (2, .int l2), (3, .int l3)]) 4 dX4_takenBy_68 rfl rfl (by decide) rfl ?_
  refine mm_goto C (pc := 71) (tgt := 5) dX4_takenBy_71 (by decide) ?_
  refine mm_sub C [1, 2, 3, 4, 0] rfl ?_
  exact q5 _ _ _ _ _ _ hK
def F_X4_takenBy_5 : Nat → Option Nat → Option Nat → Int32 → Int32 → Int32 → MH → Option (Int32 × MH)
  | 0 => fun _ _ _ _ _ _ => none
  | n + 1 => fun l0 l1 l2 l3 l4 h => mm_b2 (cV h l1 0 (F_X0_calls l1 h)) fun v8 h8 => if v8 ≤ l4 then (some (l3, h8)) else ((gR h8 l1 0 2).bind fun v15 => mm_b2 (cV h8 l1 0 (F_X0_fact l1 l4 (0 : Int32) h8)) fun v23 h23 => mm_b2 (cV h23 l1 0 (F_X0_fact l1 l4 (1 : Int32) h23)) fun v30 h30 => mm_b2 (cV h30 v15 8 (F_X8_reaches v15 l2 v23 v30 h30)) fun v33 h33 => if v33 = 0 then (F_X4_takenBy_68 (F_X4_takenBy_5 n) l0 l1 l2 l3 l4 h33) else ((gR h33 l0 4 0).bind fun v44 => mm_b2 (cV h33 l1 0 (F_X0_fact l1 l4 (2 : Int32) h33)) fun v52 h52 => mm_b2 (cV h52 v44 1 (F_X1_isCordFree v44 l2 v52 h52)) fun v55 h55 => if v55 = 0 then (F_X4_takenBy_68 (F_X4_takenBy_5 n) l0 l1 l2 l3 l4 h55) else (F_X4_takenBy_68 (F_X4_takenBy_5 n) l0 l1 l2 (l3 ||| ((1 : Int32) <<< (l4 &&& 31))) l4 h55)))
set_option maxRecDepth 20000 in
set_option maxHeartbeats 4000000 in
theorem w_X4_takenBy_5 {d : Nat} {V : Nat → List (Nat × Value) → List Value → MH → Prop} {r : Int32} {hz : MH} (hd : 2 ≤ d) (C : mm_C d yX4_takenBy cX4_takenBy 6 (some .int) (.inr (some (.int r))) hz V) : ∀ (n : Nat) (l0 : Option Nat) (l1 : Option Nat) (l2 : Int32) (l3 : Int32) (l4 : Int32) (h : MH), F_X4_takenBy_5 n l0 l1 l2 l3 l4 h = some (r, hz) → V 5 [(0, va_rf l0), (1, va_rf l1), (2, .int l2), (3, .int l3), (4, .int l4)] [] h := by
  intro n
  induction n with
  | zero => intro l0 l1 l2 l3 l4 h hK; cases hK
  | succ n ih =>
    intro l0 l1 l2 l3 l4 h hK
    replace hK : (mm_b2 (cV h l1 0 (F_X0_calls l1 h)) fun v8 h8 => if v8 ≤ l4 then (some (l3, h8)) else ((gR h8 l1 0 2).bind fun v15 => mm_b2 (cV h8 l1 0 (F_X0_fact l1 l4 (0 : Int32) h8)) fun v23 h23 => mm_b2 (cV h23 l1 0 (F_X0_fact l1 l4 (1 : Int32) h23)) fun v30 h30 => mm_b2 (cV h30 v15 8 (F_X8_reaches v15 l2 v23 v30 h30)) fun v33 h33 => if v33 = 0 then (F_X4_takenBy_68 (F_X4_takenBy_5 n) l0 l1 l2 l3 l4 h33) else ((gR h33 l0 4 0).bind fun v44 => mm_b2 (cV h33 l1 0 (F_X0_fact l1 l4 (2 : Int32) h33)) fun v52 h52 => mm_b2 (cV h52 v44 1 (F_X1_isCordFree v44 l2 v52 h52)) fun v55 h55 => if v55 = 0 then (F_X4_takenBy_68 (F_X4_takenBy_5 n) l0 l1 l2 l3 l4 h55) else (F_X4_takenBy_68 (F_X4_takenBy_5 n) l0 l1 l2 (l3 ||| ((1 : Int32) <<< (l4 &&& 31))) l4 h55)))) = some (r, hz) := hK
    refine mm_iload C (pc := 5) 4 dX4_takenBy_5 rfl ?_
    refine mm_aload_n C (pc := 7) 1 dX4_takenBy_7 rfl ?_
    replace hK := mm_b2s hK; obtain ⟨v8, h8, e8, hK⟩ := hK
    obtain ⟨o8, e8⟩ := cV_some e8
    refine mm_callV C (pc := 8) (d1 := 1) (As := []) (st := [.int l4]) (vk := (some (.int v8))) ((S_X0_calls (by omega)) e8) tT_X0_calls o8 (Or.inr ⟨_, rfl, rfl⟩) wd_1706 wd_919 wd_920 (by omega) (by decide) rfl (by simp [mm_crf, mm_cti, mm_ctl]) rfl dX4_takenBy_8 ?_
    show V _ _ (.int v8 :: _) _
    refine mm_icmp_ge C (pc := 11) (tgt := 74) dX4_takenBy_11 (by decide) (fun hc => ?_) (fun hc => ?_)
    · replace hK := mm_ip hc hK
      refine mm_iload_n C (pc := 74) 3 dX4_takenBy_74 rfl ?_
      cases hK
      exact mm_iret C (pc := 75) rfl dX4_takenBy_75 rfl rfl
    · replace hK := mm_in hc hK
      refine mm_aload_n C (pc := 14) 1 dX4_takenBy_14 rfl ?_
      replace hK := mm_bd hK; obtain ⟨v15, e15, hK⟩ := hK
      refine mm_getr C (pc := 15) (k := 2) inGX0 rfl (by decide) wd_820 dX4_takenBy_15 e15 ?_
      refine mm_iload_n C (pc := 18) 2 dX4_takenBy_18 rfl ?_
      refine mm_aload_n C (pc := 19) 1 dX4_takenBy_19 rfl ?_
      refine mm_iload C (pc := 20) 4 dX4_takenBy_20 rfl ?_
      refine mm_iconst C (pc := 22) (v := (0 : Int32)) dX4_takenBy_22 (by decide) ?_
      replace hK := mm_b2s hK; obtain ⟨v23, h23, e23, hK⟩ := hK
      obtain ⟨o23, e23⟩ := cV_some e23
      refine mm_callV C (pc := 23) (d1 := 1) (As := [.int l4, .int (0 : Int32)]) (st := [.int l2, va_rf v15]) (vk := (some (.int v23))) ((S_X0_fact (by omega)) e23) tT_X0_fact o23 (Or.inr ⟨_, rfl, rfl⟩) wd_1699 wd_961 wd_962 (by omega) (by decide) rfl (by simp [mm_crf, mm_cti, mm_ctl]) rfl dX4_takenBy_23 ?_
      show V _ _ (.int v23 :: _) _
      refine mm_aload_n C (pc := 26) 1 dX4_takenBy_26 rfl ?_
      refine mm_iload C (pc := 27) 4 dX4_takenBy_27 rfl ?_
      refine mm_iconst C (pc := 29) (v := (1 : Int32)) dX4_takenBy_29 (by decide) ?_
      replace hK := mm_b2s hK; obtain ⟨v30, h30, e30, hK⟩ := hK
      obtain ⟨o30, e30⟩ := cV_some e30
      refine mm_callV C (pc := 30) (d1 := 1) (As := [.int l4, .int (1 : Int32)]) (st := [.int v23, .int l2, va_rf v15]) (vk := (some (.int v30))) ((S_X0_fact (by omega)) e30) tT_X0_fact o30 (Or.inr ⟨_, rfl, rfl⟩) wd_1699 wd_961 wd_962 (by omega) (by decide) rfl (by simp [mm_crf, mm_cti, mm_ctl]) rfl dX4_takenBy_30 ?_
      show V _ _ (.int v30 :: _) _
      replace hK := mm_b2s hK; obtain ⟨v33, h33, e33, hK⟩ := hK
      obtain ⟨o33, e33⟩ := cV_some e33
      refine mm_callV C (pc := 33) (d1 := 1) (As := [.int l2, .int v23, .int v30]) (st := []) (vk := (some (.int v33))) ((S_X8_reaches (by omega)) e33) tT_X8_reaches o33 (Or.inr ⟨_, rfl, rfl⟩) wd_1707 wd_1052 wd_1053 (by omega) (by decide) rfl (by simp [mm_crf, mm_cti, mm_ctl]) rfl dX4_takenBy_33 ?_
      show V _ _ (.int v33 :: _) _
      refine mm_istore C (pc := 36) (i := 5) (lv' := [(5, .int v33), (0, va_rf l0), (1, va_rf l1), (2, .int l2), (3, .int l3), (4, .int l4)]) dX4_takenBy_36 (by decide) rfl ?_
      refine mm_iload C (pc := 38) 0 dX4_takenBy_38 rfl ?_
      refine mm_if_eq C (pc := 40) (tgt := 68) dX4_takenBy_40 (by decide) (fun hc => ?_) (fun hc => ?_)
      · replace hK := mm_ip hc hK
        refine mm_sub C [1, 2, 3, 4, 5] rfl ?_
        exact w_X4_takenBy_68 hd C (fun z0 z1 z2 z3 z4 z5 hK => ih z0 z1 z2 z3 z4 z5 hK) _ _ _ _ _ _ hK
      · replace hK := mm_in hc hK
        refine mm_aload_n C (pc := 43) 1 dX4_takenBy_43 rfl ?_
        replace hK := mm_bd hK; obtain ⟨v44, e44, hK⟩ := hK
        refine mm_getr C (pc := 44) (k := 0) inGX4 rfl (by decide) wd_237 dX4_takenBy_44 e44 ?_
        refine mm_iload_n C (pc := 47) 3 dX4_takenBy_47 rfl ?_
        refine mm_aload_n C (pc := 48) 2 dX4_takenBy_48 rfl ?_
        refine mm_iload C (pc := 49) 5 dX4_takenBy_49 rfl ?_
        refine mm_iconst C (pc := 51) (v := (2 : Int32)) dX4_takenBy_51 (by decide) ?_
        replace hK := mm_b2s hK; obtain ⟨v52, h52, e52, hK⟩ := hK
        obtain ⟨o52, e52⟩ := cV_some e52
        refine mm_callV C (pc := 52) (d1 := 1) (As := [.int l4, .int (2 : Int32)]) (st := [.int l2, va_rf v44]) (vk := (some (.int v52))) ((S_X0_fact (by omega)) e52) tT_X0_fact o52 (Or.inr ⟨_, rfl, rfl⟩) wd_1699 wd_961 wd_962 (by omega) (by decide) rfl (by simp [mm_crf, mm_cti, mm_ctl]) rfl dX4_takenBy_52 ?_
        show V _ _ (.int v52 :: _) _
        replace hK := mm_b2s hK; obtain ⟨v55, h55, e55, hK⟩ := hK
        obtain ⟨o55, e55⟩ := cV_some e55
        refine mm_callV C (pc := 55) (d1 := 1) (As := [.int l2, .int v52]) (st := []) (vk := (some (.int v55))) ((S_X1_isCordFree (by omega)) e55) tT_X1_isCordFree o55 (Or.inr ⟨_, rfl, rfl⟩) wd_1708 wd_1048 wd_1049 (by omega) (by decide) rfl (by simp [mm_crf, mm_cti, mm_ctl]) rfl dX4_takenBy_55 ?_
        show V _ _ (.int v55 :: _) _
        refine mm_if_eq C (pc := 58) (tgt := 68) dX4_takenBy_58 (by decide) (fun hc => ?_) (fun hc => ?_)
        · replace hK := mm_ip hc hK
          refine mm_sub C [1, 2, 3, 4, 5] rfl ?_
          exact w_X4_takenBy_68 hd C (fun z0 z1 z2 z3 z4 z5 hK => ih z0 z1 z2 z3 z4 z5 hK) _ _ _ _ _ _ hK
        · replace hK := mm_in hc hK
          refine mm_iload_n C (pc := 61) 4 dX4_takenBy_61 rfl ?_
          refine mm_iconst C (pc := 62) (v := (1 : Int32)) dX4_takenBy_62 (by decide) ?_
          refine mm_iload C (pc := 63) 5 dX4_takenBy_63 rfl ?_
          refine mm_ishl C (pc := 65) dX4_takenBy_65 ?_
          refine mm_ior C (pc := 66) dX4_takenBy_66 ?_
          refine mm_istore_n C (pc := 67) (i := 3) (lv' := [(3, .int (l3 ||| ((1 : Int32) <<< (l4 &&& 31)))), (5, .int v33), (0, va_rf l0), (1, va_rf l1), (2, .int l2), (4, .int l4)]) dX4_takenBy_67 rfl (by decide) rfl ?_
          refine mm_sub C [2, 3, 4, 0, 5] rfl ?_
          exact w_X4_takenBy_68 hd C (fun z0 z1 z2 z3 z4 z5 hK => ih z0 z1 z2 z3 z4 z5 hK) _ _ _ _ _ _ hK
def F_X4_takenBy (a0 : Option Nat) (a1 : Option Nat) (a2 : Int32) (h : MH) : Option (Int32 × MH) := F_X4_takenBy_5 mm_N a0 a1 a2 (0 : Int32) (0 : Int32) h
set_option maxRecDepth 20000 in
set_option maxHeartbeats 4000000 in
theorem S_X4_takenBy {d : Nat} (hd : 2 ≤ d) {a0 : Option Nat} {a1 : Option Nat} {a2 : Int32} {h : MH} {r : Int32} {hz : MH} (hK : F_X4_takenBy a0 a1 a2 h = some (r, hz)) : mm_M yX4_takenBy cX4_takenBy 6 (some .int) d [va_rf a0, va_rf a1, .int a2] h (.inr (some (.int r))) hz := by
  refine mm_ofV (by decide +kernel) (by simp [lg_sl, mm_crf, mm_cti, mm_ctl]) (fun V C => ?_)
  rw [show lv_args 0 [va_rf a0, va_rf a1, .int a2] = [(0, va_rf a0), (1, va_rf a1), (2, .int a2)] by simp [lv_args, mm_crf, mm_cti, mm_ctl]]
  unfold F_X4_takenBy at hK
  refine mm_iconst C (pc := 0) (v := (0 : Int32)) dX4_takenBy_0 (by decide) ?_
  refine mm_istore_n C (pc := 1) (i := 3) (lv' := [(3, .int (0 : Int32)), (0, va_rf a0), (1, va_rf a1), (2, .int a2)]) dX4_takenBy_1 rfl (by decide) rfl ?_
  refine mm_iconst C (pc := 2) (v := (0 : Int32)) dX4_takenBy_2 (by decide) ?_
  refine mm_istore C (pc := 3) (i := 4) (lv' := [(4, .int (0 : Int32)), (3, .int (0 : Int32)), (0, va_rf a0), (1, va_rf a1), (2, .int a2)]) dX4_takenBy_3 (by decide) rfl ?_
  refine mm_sub C [2, 3, 4, 1, 0] rfl ?_
  exact w_X4_takenBy_5 hd C _ _ _ _ _ _ _ hK
theorem wd_1717 : Cond.methodLink RX4 124 yX0_endOf ∈ lw_good := mm_wd 1717 (by decide +kernel) (by decide +kernel)
def F_X4_findOthers_173 (h : MH) : Option MH := some h
set_option maxRecDepth 20000 in
set_option maxHeartbeats 4000000 in
theorem w_X4_findOthers_173 {d : Nat} {V : Nat → List (Nat × Value) → List Value → MH → Prop} {hz : MH} (hd : 3 ≤ d) (C : mm_C d yX4_findOthers cX4_findOthers 12 none (.inr none) hz V) (h : MH) (hK : F_X4_findOthers_173  h = some hz) : V 173 [] [] h := by
  unfold F_X4_findOthers_173 at hK
  cases hK
  exact mm_vret C (pc := 173) rfl dX4_findOthers_173 rfl rfl
def F_X4_findOthers_141 (k36 : Option Nat → Option Nat → Int32 → Int32 → Int32 → Int32 → Int32 → Int32 → MH → Option MH) (l0 : Option Nat) (l1 : Option Nat) (l2 : Int32) (l3 : Int32) (l6 : Int32) (l7 : Int32) (l8 : Int32) (l9 : Int32) (h : MH) : Option MH := k36 l0 l1 l2 l3 l6 l7 l8 (l9 + (1 : Int32)) h
set_option maxRecDepth 20000 in
set_option maxHeartbeats 4000000 in
theorem w_X4_findOthers_141 {d : Nat} {V : Nat → List (Nat × Value) → List Value → MH → Prop} {hz : MH} {k36 : Option Nat → Option Nat → Int32 → Int32 → Int32 → Int32 → Int32 → Int32 → MH → Option MH} (hd : 3 ≤ d) (C : mm_C d yX4_findOthers cX4_findOthers 12 none (.inr none) hz V) (q36 : ∀ (x0 : Option Nat) (x1 : Option Nat) (x2 : Int32) (x3 : Int32) (x4 : Int32) (x5 : Int32) (x6 : Int32) (x7 : Int32) (h : MH), k36 x0 x1 x2 x3 x4 x5 x6 x7 h = some hz → V 36 [(0, va_rf x0), (1, va_rf x1), (2, .int x2), (3, .int x3), (6, .int x4), (7, .int x5), (8, .int x6), (9, .int x7)] [] h) (l0 : Option Nat) (l1 : Option Nat) (l2 : Int32) (l3 : Int32) (l6 : Int32) (l7 : Int32) (l8 : Int32) (l9 : Int32) (h : MH) (hK : F_X4_findOthers_141 k36 l0 l1 l2 l3 l6 l7 l8 l9 h = some hz) : V 141 [(0, va_rf l0), (1, va_rf l1), (2, .int l2), (3, .int l3), (6, .int l6), (7, .int l7), (8, .int l8), (9, .int l9)] [] h := by
  unfold F_X4_findOthers_141 at hK
  refine mm_iinc C (pc := 141) (v := (l9 + (1 : Int32))) (lv' := [(9, .int (l9 + (1 : Int32))), (0, va_rf l0), (1, va_rf l1), (2, .int l2), (3, .int l3), (6, .int l6), (7, .int l7), (8, .int l8)]) 7 dX4_findOthers_141 rfl rfl (by decide) rfl ?_
  refine mm_goto C (pc := 144) (tgt := 36) dX4_findOthers_144 (by decide) ?_
  refine mm_sub C [1, 2, 3, 4, 5, 6, 7, 0] rfl ?_
  exact q36 _ _ _ _ _ _ _ _ _ hK
def F_X4_findOthers_138 (k36 : Option Nat → Option Nat → Int32 → Int32 → Int32 → Int32 → Int32 → Int32 → MH → Option MH) (l0 : Option Nat) (l1 : Option Nat) (l2 : Int32) (l3 : Int32) (l6 : Int32) (l7 : Int32) (l9 : Int32) (s0 : Int32) (s1 : Int32) (h : MH) : Option MH := F_X4_findOthers_141 k36 l0 l1 l2 l3 l6 l7 (s1 ||| s0) l9 h
set_option maxRecDepth 20000 in
set_option maxHeartbeats 4000000 in
theorem w_X4_findOthers_138 {d : Nat} {V : Nat → List (Nat × Value) → List Value → MH → Prop} {hz : MH} {k36 : Option Nat → Option Nat → Int32 → Int32 → Int32 → Int32 → Int32 → Int32 → MH → Option MH} (hd : 3 ≤ d) (C : mm_C d yX4_findOthers cX4_findOthers 12 none (.inr none) hz V) (q36 : ∀ (x0 : Option Nat) (x1 : Option Nat) (x2 : Int32) (x3 : Int32) (x4 : Int32) (x5 : Int32) (x6 : Int32) (x7 : Int32) (h : MH), k36 x0 x1 x2 x3 x4 x5 x6 x7 h = some hz → V 36 [(0, va_rf x0), (1, va_rf x1), (2, .int x2), (3, .int x3), (6, .int x4), (7, .int x5), (8, .int x6), (9, .int x7)] [] h) (l0 : Option Nat) (l1 : Option Nat) (l2 : Int32) (l3 : Int32) (l6 : Int32) (l7 : Int32) (l9 : Int32) (s0 : Int32) (s1 : Int32) (h : MH) (hK : F_X4_findOthers_138 k36 l0 l1 l2 l3 l6 l7 l9 s0 s1 h = some hz) : V 138 [(0, va_rf l0), (1, va_rf l1), (2, .int l2), (3, .int l3), (6, .int l6), (7, .int l7), (9, .int l9)] [.int s0, .int s1] h := by
  unfold F_X4_findOthers_138 at hK
  refine mm_ior C (pc := 138) dX4_findOthers_138 ?_
  refine mm_istore C (pc := 139) (i := 8) (lv' := [(8, .int (s1 ||| s0)), (0, va_rf l0), (1, va_rf l1), (2, .int l2), (3, .int l3), (6, .int l6), (7, .int l7), (9, .int l9)]) dX4_findOthers_139 (by decide) rfl ?_
  refine mm_sub C [1, 2, 3, 4, 5, 6, 0, 7] rfl ?_
  exact w_X4_findOthers_141 hd C (fun z0 z1 z2 z3 z4 z5 z6 z7 z8 hK => q36 z0 z1 z2 z3 z4 z5 z6 z7 z8 hK) _ _ _ _ _ _ _ _ _ hK
def F_X4_findOthers_77 (k36 : Option Nat → Option Nat → Int32 → Int32 → Int32 → Int32 → Int32 → Int32 → MH → Option MH) (l0 : Option Nat) (l1 : Option Nat) (l2 : Int32) (l3 : Int32) (l6 : Int32) (l7 : Int32) (l8 : Int32) (l9 : Int32) (s0 : Int32) (h : MH) : Option MH := if l9 = l2 then (F_X4_findOthers_141 k36 l0 l1 l2 l3 l6 l7 l8 l9 h) else (if s0 = 0 then (mm_b2 (cV h l1 0 (F_X0_fact l1 l9 (0 : Int32) h)) fun v104 h104 => mm_b2 (cV h104 l1 0 (F_X0_fact l1 l9 (1 : Int32) h104)) fun v113 h113 => if (l6 &&& (((1 : Int32) <<< (v104 &&& 31)) ||| ((1 : Int32) <<< (v113 &&& 31)))) = 0 then (F_X4_findOthers_138 k36 l0 l1 l2 l3 l6 (l7 ||| ((1 : Int32) <<< (l9 &&& 31))) l9 (0 : Int32) l8 h113) else (F_X4_findOthers_138 k36 l0 l1 l2 l3 l6 (l7 ||| ((1 : Int32) <<< (l9 &&& 31))) l9 ((1 : Int32) <<< (l9 &&& 31)) l8 h113)) else (F_X4_findOthers_141 k36 l0 l1 l2 l3 l6 l7 l8 l9 h))
set_option maxRecDepth 20000 in
set_option maxHeartbeats 4000000 in
theorem w_X4_findOthers_77 {d : Nat} {V : Nat → List (Nat × Value) → List Value → MH → Prop} {hz : MH} {k36 : Option Nat → Option Nat → Int32 → Int32 → Int32 → Int32 → Int32 → Int32 → MH → Option MH} (hd : 3 ≤ d) (C : mm_C d yX4_findOthers cX4_findOthers 12 none (.inr none) hz V) (q36 : ∀ (x0 : Option Nat) (x1 : Option Nat) (x2 : Int32) (x3 : Int32) (x4 : Int32) (x5 : Int32) (x6 : Int32) (x7 : Int32) (h : MH), k36 x0 x1 x2 x3 x4 x5 x6 x7 h = some hz → V 36 [(0, va_rf x0), (1, va_rf x1), (2, .int x2), (3, .int x3), (6, .int x4), (7, .int x5), (8, .int x6), (9, .int x7)] [] h) (l0 : Option Nat) (l1 : Option Nat) (l2 : Int32) (l3 : Int32) (l6 : Int32) (l7 : Int32) (l8 : Int32) (l9 : Int32) (s0 : Int32) (h : MH) (hK : F_X4_findOthers_77 k36 l0 l1 l2 l3 l6 l7 l8 l9 s0 h = some hz) : V 77 [(0, va_rf l0), (1, va_rf l1), (2, .int l2), (3, .int l3), (6, .int l6), (7, .int l7), (8, .int l8), (9, .int l9)] [.int s0] h := by
  unfold F_X4_findOthers_77 at hK
  refine mm_istore C (pc := 77) (i := 10) (lv' := [(10, .int s0), (0, va_rf l0), (1, va_rf l1), (2, .int l2), (3, .int l3), (6, .int l6), (7, .int l7), (8, .int l8), (9, .int l9)]) dX4_findOthers_77 (by decide) rfl ?_
  refine mm_iload C (pc := 79) 8 dX4_findOthers_79 rfl ?_
  refine mm_iload_n C (pc := 81) 3 dX4_findOthers_81 rfl ?_
  refine mm_icmp_eq C (pc := 82) (tgt := 141) dX4_findOthers_82 (by decide) (fun hc => ?_) (fun hc => ?_)
  · replace hK := mm_ip hc hK
    refine mm_sub C [1, 2, 3, 4, 5, 6, 7, 8] rfl ?_
    exact w_X4_findOthers_141 hd C (fun z0 z1 z2 z3 z4 z5 z6 z7 z8 hK => q36 z0 z1 z2 z3 z4 z5 z6 z7 z8 hK) _ _ _ _ _ _ _ _ _ hK
  · replace hK := mm_in hc hK
    refine mm_iload C (pc := 85) 0 dX4_findOthers_85 rfl ?_
    refine mm_if_ne C (pc := 87) (tgt := 141) dX4_findOthers_87 (by decide) (fun hc => ?_) (fun hc => ?_)
    · replace hK := mm_in hc hK
      refine mm_sub C [1, 2, 3, 4, 5, 6, 7, 8] rfl ?_
      exact w_X4_findOthers_141 hd C (fun z0 z1 z2 z3 z4 z5 z6 z7 z8 hK => q36 z0 z1 z2 z3 z4 z5 z6 z7 z8 hK) _ _ _ _ _ _ _ _ _ hK
    · replace hK := mm_ip hc hK
      refine mm_iload C (pc := 90) 6 dX4_findOthers_90 rfl ?_
      refine mm_iconst C (pc := 92) (v := (1 : Int32)) dX4_findOthers_92 (by decide) ?_
      refine mm_iload C (pc := 93) 8 dX4_findOthers_93 rfl ?_
      refine mm_ishl C (pc := 95) dX4_findOthers_95 ?_
      refine mm_ior C (pc := 96) dX4_findOthers_96 ?_
      refine mm_istore C (pc := 97) (i := 7) (lv' := [(7, .int (l7 ||| ((1 : Int32) <<< (l9 &&& 31)))), (10, .int s0), (0, va_rf l0), (1, va_rf l1), (2, .int l2), (3, .int l3), (6, .int l6), (8, .int l8), (9, .int l9)]) dX4_findOthers_97 (by decide) rfl ?_
      refine mm_iconst C (pc := 99) (v := (1 : Int32)) dX4_findOthers_99 (by decide) ?_
      refine mm_aload_n C (pc := 100) 3 dX4_findOthers_100 rfl ?_
      refine mm_iload C (pc := 101) 8 dX4_findOthers_101 rfl ?_
      refine mm_iconst C (pc := 103) (v := (0 : Int32)) dX4_findOthers_103 (by decide) ?_
      replace hK := mm_b2s hK; obtain ⟨v104, h104, e104, hK⟩ := hK
      obtain ⟨o104, e104⟩ := cV_some e104
      refine mm_callV C (pc := 104) (d1 := 1) (As := [.int l9, .int (0 : Int32)]) (st := [.int (1 : Int32)]) (vk := (some (.int v104))) ((S_X0_fact (by omega)) e104) tT_X0_fact o104 (Or.inr ⟨_, rfl, rfl⟩) wd_1699 wd_961 wd_962 (by omega) (by decide) rfl (by simp [mm_crf, mm_cti, mm_ctl]) rfl dX4_findOthers_104 ?_
      show V _ _ (.int v104 :: _) _
      refine mm_ishl C (pc := 107) dX4_findOthers_107 ?_
      refine mm_iconst C (pc := 108) (v := (1 : Int32)) dX4_findOthers_108 (by decide) ?_
      refine mm_aload_n C (pc := 109) 3 dX4_findOthers_109 rfl ?_
      refine mm_iload C (pc := 110) 8 dX4_findOthers_110 rfl ?_
      refine mm_iconst C (pc := 112) (v := (1 : Int32)) dX4_findOthers_112 (by decide) ?_
      replace hK := mm_b2s hK; obtain ⟨v113, h113, e113, hK⟩ := hK
      obtain ⟨o113, e113⟩ := cV_some e113
      refine mm_callV C (pc := 113) (d1 := 1) (As := [.int l9, .int (1 : Int32)]) (st := [.int (1 : Int32), .int ((1 : Int32) <<< (v104 &&& 31))]) (vk := (some (.int v113))) ((S_X0_fact (by omega)) e113) tT_X0_fact o113 (Or.inr ⟨_, rfl, rfl⟩) wd_1699 wd_961 wd_962 (by omega) (by decide) rfl (by simp [mm_crf, mm_cti, mm_ctl]) rfl dX4_findOthers_113 ?_
      show V _ _ (.int v113 :: _) _
      refine mm_ishl C (pc := 116) dX4_findOthers_116 ?_
      refine mm_ior C (pc := 117) dX4_findOthers_117 ?_
      refine mm_istore C (pc := 118) (i := 11) (lv' := [(11, .int (((1 : Int32) <<< (v104 &&& 31)) ||| ((1 : Int32) <<< (v113 &&& 31)))), (7, .int (l7 ||| ((1 : Int32) <<< (l9 &&& 31)))), (10, .int s0), (0, va_rf l0), (1, va_rf l1), (2, .int l2), (3, .int l3), (6, .int l6), (8, .int l8), (9, .int l9)]) dX4_findOthers_118 (by decide) rfl ?_
      refine mm_iload C (pc := 120) 8 dX4_findOthers_120 rfl ?_
      refine mm_iload C (pc := 122) 7 dX4_findOthers_122 rfl ?_
      refine mm_iload C (pc := 124) 0 dX4_findOthers_124 rfl ?_
      refine mm_iand C (pc := 126) dX4_findOthers_126 ?_
      refine mm_if_eq C (pc := 127) (tgt := 137) dX4_findOthers_127 (by decide) (fun hc => ?_) (fun hc => ?_)
      · replace hK := mm_ip hc hK
        refine mm_iconst C (pc := 137) (v := (0 : Int32)) dX4_findOthers_137 (by decide) ?_
        refine mm_sub C [3, 4, 5, 6, 7, 1, 9] rfl ?_
        exact w_X4_findOthers_138 hd C (fun z0 z1 z2 z3 z4 z5 z6 z7 z8 hK => q36 z0 z1 z2 z3 z4 z5 z6 z7 z8 hK) _ _ _ _ _ _ _ _ _ _ hK
      · replace hK := mm_in hc hK
        refine mm_iconst C (pc := 130) (v := (1 : Int32)) dX4_findOthers_130 (by decide) ?_
        refine mm_iload C (pc := 131) 9 dX4_findOthers_131 rfl ?_
        refine mm_ishl C (pc := 133) dX4_findOthers_133 ?_
        refine mm_goto C (pc := 134) (tgt := 138) dX4_findOthers_134 (by decide) ?_
        refine mm_sub C [3, 4, 5, 6, 7, 1, 9] rfl ?_
        exact w_X4_findOthers_138 hd C (fun z0 z1 z2 z3 z4 z5 z6 z7 z8 hK => q36 z0 z1 z2 z3 z4 z5 z6 z7 z8 hK) _ _ _ _ _ _ _ _ _ _ hK
def F_X4_findOthers_72 (k36 : Option Nat → Option Nat → Int32 → Int32 → Int32 → Int32 → Int32 → Int32 → MH → Option MH) (l0 : Option Nat) (l1 : Option Nat) (l2 : Int32) (l3 : Int32) (l6 : Int32) (l7 : Int32) (l8 : Int32) (l9 : Int32) (h : MH) : Option MH := F_X4_findOthers_77 k36 l0 l1 l2 l3 l6 l7 l8 l9 (1 : Int32) h
set_option maxRecDepth 20000 in
set_option maxHeartbeats 4000000 in
theorem w_X4_findOthers_72 {d : Nat} {V : Nat → List (Nat × Value) → List Value → MH → Prop} {hz : MH} {k36 : Option Nat → Option Nat → Int32 → Int32 → Int32 → Int32 → Int32 → Int32 → MH → Option MH} (hd : 3 ≤ d) (C : mm_C d yX4_findOthers cX4_findOthers 12 none (.inr none) hz V) (q36 : ∀ (x0 : Option Nat) (x1 : Option Nat) (x2 : Int32) (x3 : Int32) (x4 : Int32) (x5 : Int32) (x6 : Int32) (x7 : Int32) (h : MH), k36 x0 x1 x2 x3 x4 x5 x6 x7 h = some hz → V 36 [(0, va_rf x0), (1, va_rf x1), (2, .int x2), (3, .int x3), (6, .int x4), (7, .int x5), (8, .int x6), (9, .int x7)] [] h) (l0 : Option Nat) (l1 : Option Nat) (l2 : Int32) (l3 : Int32) (l6 : Int32) (l7 : Int32) (l8 : Int32) (l9 : Int32) (h : MH) (hK : F_X4_findOthers_72 k36 l0 l1 l2 l3 l6 l7 l8 l9 h = some hz) : V 72 [(0, va_rf l0), (1, va_rf l1), (2, .int l2), (3, .int l3), (6, .int l6), (7, .int l7), (8, .int l8), (9, .int l9)] [] h := by
  unfold F_X4_findOthers_72 at hK
  refine mm_iconst C (pc := 72) (v := (1 : Int32)) dX4_findOthers_72 (by decide) ?_
  refine mm_goto C (pc := 73) (tgt := 77) dX4_findOthers_73 (by decide) ?_
  exact w_X4_findOthers_77 hd C (fun z0 z1 z2 z3 z4 z5 z6 z7 z8 hK => q36 z0 z1 z2 z3 z4 z5 z6 z7 z8 hK) _ _ _ _ _ _ _ _ _ _ hK
def F_X4_findOthers_36 : Nat → Option Nat → Option Nat → Int32 → Int32 → Int32 → Int32 → Int32 → Int32 → MH → Option MH
  | 0 => fun _ _ _ _ _ _ _ _ _ => none
  | n + 1 => fun l0 l1 l2 l3 l6 l7 l8 l9 h => if l3 ≤ l9 then (if l2 < 0 then (F_X4_findOthers_173 h) else (if (10 : Int32) ≤ l2 then (F_X4_findOthers_173 h) else ((gR h l0 4 3).bind fun v158 => (sI h v158 0 l2 l7).bind fun h164 => (gR h164 l0 4 4).bind fun v166 => (sI h164 v166 0 l2 l8).bind fun h172 => F_X4_findOthers_173 h172))) else (mm_b2 (cV h l1 0 (F_X0_endOf l1 l2 h)) fun v44 h44 => mm_b2 (cV h44 l1 0 (F_X0_fact l1 l9 (2 : Int32) h44)) fun v51 h51 => if v44 ≤ v51 then (F_X4_findOthers_72 (F_X4_findOthers_36 n) l0 l1 l2 l3 l6 l7 l8 l9 h51) else (mm_b2 (cV h51 l1 0 (F_X0_endOf l1 l9 h51)) fun v60 h60 => mm_b2 (cV h60 l1 0 (F_X0_fact l1 l2 (2 : Int32) h60)) fun v66 h66 => if v66 < v60 then (F_X4_findOthers_77 (F_X4_findOthers_36 n) l0 l1 l2 l3 l6 l7 l8 l9 (0 : Int32) h66) else (F_X4_findOthers_72 (F_X4_findOthers_36 n) l0 l1 l2 l3 l6 l7 l8 l9 h66)))
set_option maxRecDepth 20000 in
set_option maxHeartbeats 4000000 in
theorem w_X4_findOthers_36 {d : Nat} {V : Nat → List (Nat × Value) → List Value → MH → Prop} {hz : MH} (hd : 3 ≤ d) (C : mm_C d yX4_findOthers cX4_findOthers 12 none (.inr none) hz V) : ∀ (n : Nat) (l0 : Option Nat) (l1 : Option Nat) (l2 : Int32) (l3 : Int32) (l6 : Int32) (l7 : Int32) (l8 : Int32) (l9 : Int32) (h : MH), F_X4_findOthers_36 n l0 l1 l2 l3 l6 l7 l8 l9 h = some hz → V 36 [(0, va_rf l0), (1, va_rf l1), (2, .int l2), (3, .int l3), (6, .int l6), (7, .int l7), (8, .int l8), (9, .int l9)] [] h := by
  intro n
  induction n with
  | zero => intro l0 l1 l2 l3 l6 l7 l8 l9 h hK; cases hK
  | succ n ih =>
    intro l0 l1 l2 l3 l6 l7 l8 l9 h hK
    replace hK : (if l3 ≤ l9 then (if l2 < 0 then (F_X4_findOthers_173 h) else (if (10 : Int32) ≤ l2 then (F_X4_findOthers_173 h) else ((gR h l0 4 3).bind fun v158 => (sI h v158 0 l2 l7).bind fun h164 => (gR h164 l0 4 4).bind fun v166 => (sI h164 v166 0 l2 l8).bind fun h172 => F_X4_findOthers_173 h172))) else (mm_b2 (cV h l1 0 (F_X0_endOf l1 l2 h)) fun v44 h44 => mm_b2 (cV h44 l1 0 (F_X0_fact l1 l9 (2 : Int32) h44)) fun v51 h51 => if v44 ≤ v51 then (F_X4_findOthers_72 (F_X4_findOthers_36 n) l0 l1 l2 l3 l6 l7 l8 l9 h51) else (mm_b2 (cV h51 l1 0 (F_X0_endOf l1 l9 h51)) fun v60 h60 => mm_b2 (cV h60 l1 0 (F_X0_fact l1 l2 (2 : Int32) h60)) fun v66 h66 => if v66 < v60 then (F_X4_findOthers_77 (F_X4_findOthers_36 n) l0 l1 l2 l3 l6 l7 l8 l9 (0 : Int32) h66) else (F_X4_findOthers_72 (F_X4_findOthers_36 n) l0 l1 l2 l3 l6 l7 l8 l9 h66)))) = some hz := hK
    refine mm_iload C (pc := 36) 7 dX4_findOthers_36 rfl ?_
    refine mm_iload_n C (pc := 38) 3 dX4_findOthers_38 rfl ?_
    refine mm_icmp_ge C (pc := 39) (tgt := 147) dX4_findOthers_39 (by decide) (fun hc => ?_) (fun hc => ?_)
    · replace hK := mm_ip hc hK
      refine mm_iload_n C (pc := 147) 2 dX4_findOthers_147 rfl ?_
      refine mm_if_lt C (pc := 148) (tgt := 173) dX4_findOthers_148 (by decide) (fun hc => ?_) (fun hc => ?_)
      · replace hK := mm_ip hc hK
        refine mm_sub C [] rfl ?_
        exact w_X4_findOthers_173 hd C _ hK
      · replace hK := mm_in hc hK
        refine mm_iload_n C (pc := 151) 2 dX4_findOthers_151 rfl ?_
        refine mm_bipush C (pc := 152) (v := (10 : Int32)) dX4_findOthers_152 (by decide) ?_
        refine mm_icmp_ge C (pc := 154) (tgt := 173) dX4_findOthers_154 (by decide) (fun hc => ?_) (fun hc => ?_)
        · replace hK := mm_ip hc hK
          refine mm_sub C [] rfl ?_
          exact w_X4_findOthers_173 hd C _ hK
        · replace hK := mm_in hc hK
          refine mm_aload_n C (pc := 157) 0 dX4_findOthers_157 rfl ?_
          replace hK := mm_bd hK; obtain ⟨v158, e158, hK⟩ := hK
          refine mm_getr C (pc := 158) (k := 3) inGX4 rfl (by decide) wd_240 dX4_findOthers_158 e158 ?_
          refine mm_iload_n C (pc := 161) 2 dX4_findOthers_161 rfl ?_
          refine mm_iload C (pc := 162) 5 dX4_findOthers_162 rfl ?_
          replace hK := mm_bd hK; obtain ⟨h164, e164, hK⟩ := hK
          refine mm_iast C (pc := 164) dX4_findOthers_164 e164 ?_
          refine mm_aload_n C (pc := 165) 0 dX4_findOthers_165 rfl ?_
          replace hK := mm_bd hK; obtain ⟨v166, e166, hK⟩ := hK
          refine mm_getr C (pc := 166) (k := 4) inGX4 rfl (by decide) wd_241 dX4_findOthers_166 e166 ?_
          refine mm_iload_n C (pc := 169) 2 dX4_findOthers_169 rfl ?_
          refine mm_iload C (pc := 170) 6 dX4_findOthers_170 rfl ?_
          replace hK := mm_bd hK; obtain ⟨h172, e172, hK⟩ := hK
          refine mm_iast C (pc := 172) dX4_findOthers_172 e172 ?_
          refine mm_sub C [] rfl ?_
          exact w_X4_findOthers_173 hd C _ hK
    · replace hK := mm_in hc hK
      refine mm_aload_n C (pc := 42) 1 dX4_findOthers_42 rfl ?_
      refine mm_iload_n C (pc := 43) 2 dX4_findOthers_43 rfl ?_
      replace hK := mm_b2s hK; obtain ⟨v44, h44, e44, hK⟩ := hK
      obtain ⟨o44, e44⟩ := cV_some e44
      refine mm_callV C (pc := 44) (d1 := 2) (As := [.int l2]) (st := []) (vk := (some (.int v44))) ((S_X0_endOf (by omega)) e44) tT_X0_endOf o44 (Or.inr ⟨_, rfl, rfl⟩) wd_1717 wd_1001 wd_1002 (by omega) (by decide) rfl (by simp [mm_crf, mm_cti, mm_ctl]) rfl dX4_findOthers_44 ?_
      show V _ _ (.int v44 :: _) _
      refine mm_aload_n C (pc := 47) 1 dX4_findOthers_47 rfl ?_
      refine mm_iload C (pc := 48) 7 dX4_findOthers_48 rfl ?_
      refine mm_iconst C (pc := 50) (v := (2 : Int32)) dX4_findOthers_50 (by decide) ?_
      replace hK := mm_b2s hK; obtain ⟨v51, h51, e51, hK⟩ := hK
      obtain ⟨o51, e51⟩ := cV_some e51
      refine mm_callV C (pc := 51) (d1 := 1) (As := [.int l9, .int (2 : Int32)]) (st := [.int v44]) (vk := (some (.int v51))) ((S_X0_fact (by omega)) e51) tT_X0_fact o51 (Or.inr ⟨_, rfl, rfl⟩) wd_1699 wd_961 wd_962 (by omega) (by decide) rfl (by simp [mm_crf, mm_cti, mm_ctl]) rfl dX4_findOthers_51 ?_
      show V _ _ (.int v51 :: _) _
      refine mm_icmp_le C (pc := 54) (tgt := 72) dX4_findOthers_54 (by decide) (fun hc => ?_) (fun hc => ?_)
      · replace hK := mm_ip hc hK
        exact w_X4_findOthers_72 hd C (fun z0 z1 z2 z3 z4 z5 z6 z7 z8 hK => ih z0 z1 z2 z3 z4 z5 z6 z7 z8 hK) _ _ _ _ _ _ _ _ _ hK
      · replace hK := mm_in hc hK
        refine mm_aload_n C (pc := 57) 1 dX4_findOthers_57 rfl ?_
        refine mm_iload C (pc := 58) 7 dX4_findOthers_58 rfl ?_
        replace hK := mm_b2s hK; obtain ⟨v60, h60, e60, hK⟩ := hK
        obtain ⟨o60, e60⟩ := cV_some e60
        refine mm_callV C (pc := 60) (d1 := 2) (As := [.int l9]) (st := []) (vk := (some (.int v60))) ((S_X0_endOf (by omega)) e60) tT_X0_endOf o60 (Or.inr ⟨_, rfl, rfl⟩) wd_1717 wd_1001 wd_1002 (by omega) (by decide) rfl (by simp [mm_crf, mm_cti, mm_ctl]) rfl dX4_findOthers_60 ?_
        show V _ _ (.int v60 :: _) _
        refine mm_aload_n C (pc := 63) 1 dX4_findOthers_63 rfl ?_
        refine mm_iload_n C (pc := 64) 2 dX4_findOthers_64 rfl ?_
        refine mm_iconst C (pc := 65) (v := (2 : Int32)) dX4_findOthers_65 (by decide) ?_
        replace hK := mm_b2s hK; obtain ⟨v66, h66, e66, hK⟩ := hK
        obtain ⟨o66, e66⟩ := cV_some e66
        refine mm_callV C (pc := 66) (d1 := 1) (As := [.int l2, .int (2 : Int32)]) (st := [.int v60]) (vk := (some (.int v66))) ((S_X0_fact (by omega)) e66) tT_X0_fact o66 (Or.inr ⟨_, rfl, rfl⟩) wd_1699 wd_961 wd_962 (by omega) (by decide) rfl (by simp [mm_crf, mm_cti, mm_ctl]) rfl dX4_findOthers_66 ?_
        show V _ _ (.int v66 :: _) _
        refine mm_icmp_gt C (pc := 69) (tgt := 76) dX4_findOthers_69 (by decide) (fun hc => ?_) (fun hc => ?_)
        · replace hK := mm_ip hc hK
          refine mm_iconst C (pc := 76) (v := (0 : Int32)) dX4_findOthers_76 (by decide) ?_
          exact w_X4_findOthers_77 hd C (fun z0 z1 z2 z3 z4 z5 z6 z7 z8 hK => ih z0 z1 z2 z3 z4 z5 z6 z7 z8 hK) _ _ _ _ _ _ _ _ _ _ hK
        · replace hK := mm_in hc hK
          exact w_X4_findOthers_72 hd C (fun z0 z1 z2 z3 z4 z5 z6 z7 z8 hK => ih z0 z1 z2 z3 z4 z5 z6 z7 z8 hK) _ _ _ _ _ _ _ _ _ hK
def F_X4_findOthers (a0 : Option Nat) (a1 : Option Nat) (a2 : Int32) (a3 : Int32) (h : MH) : Option MH := mm_b2 (cV h a1 0 (F_X0_fact a1 a2 (0 : Int32) h)) fun v3 h3 => mm_b2 (cV h3 a1 0 (F_X0_fact a1 a2 (1 : Int32) h3)) fun v11 h11 => F_X4_findOthers_36 mm_N a0 a1 a2 a3 (((1 : Int32) <<< (v3 &&& 31)) ||| ((1 : Int32) <<< (v11 &&& 31))) (0 : Int32) (0 : Int32) (0 : Int32) h11
set_option maxRecDepth 20000 in
set_option maxHeartbeats 4000000 in
theorem S_X4_findOthers {d : Nat} (hd : 3 ≤ d) {a0 : Option Nat} {a1 : Option Nat} {a2 : Int32} {a3 : Int32} {h : MH} {hz : MH} (hK : F_X4_findOthers a0 a1 a2 a3 h = some hz) : mm_M yX4_findOthers cX4_findOthers 12 none d [va_rf a0, va_rf a1, .int a2, .int a3] h (.inr none) hz := by
  refine mm_ofV (by decide +kernel) (by simp [lg_sl, mm_crf, mm_cti, mm_ctl]) (fun V C => ?_)
  rw [show lv_args 0 [va_rf a0, va_rf a1, .int a2, .int a3] = [(0, va_rf a0), (1, va_rf a1), (2, .int a2), (3, .int a3)] by simp [lv_args, mm_crf, mm_cti, mm_ctl]]
  unfold F_X4_findOthers at hK
  refine mm_aload_n C (pc := 0) 1 dX4_findOthers_0 rfl ?_
  refine mm_iload_n C (pc := 1) 2 dX4_findOthers_1 rfl ?_
  refine mm_iconst C (pc := 2) (v := (0 : Int32)) dX4_findOthers_2 (by decide) ?_
  replace hK := mm_b2s hK; obtain ⟨v3, h3, e3, hK⟩ := hK
  obtain ⟨o3, e3⟩ := cV_some e3
  refine mm_callV C (pc := 3) (d1 := 1) (As := [.int a2, .int (0 : Int32)]) (st := []) (vk := (some (.int v3))) ((S_X0_fact (by omega)) e3) tT_X0_fact o3 (Or.inr ⟨_, rfl, rfl⟩) wd_1699 wd_961 wd_962 (by omega) (by decide) rfl (by simp [mm_crf, mm_cti, mm_ctl]) rfl dX4_findOthers_3 ?_
  show V _ _ (.int v3 :: _) _
  refine mm_istore C (pc := 6) (i := 4) (lv' := [(4, .int v3), (0, va_rf a0), (1, va_rf a1), (2, .int a2), (3, .int a3)]) dX4_findOthers_6 (by decide) rfl ?_
  refine mm_aload_n C (pc := 8) 2 dX4_findOthers_8 rfl ?_
  refine mm_iload_n C (pc := 9) 3 dX4_findOthers_9 rfl ?_
  refine mm_iconst C (pc := 10) (v := (1 : Int32)) dX4_findOthers_10 (by decide) ?_
  replace hK := mm_b2s hK; obtain ⟨v11, h11, e11, hK⟩ := hK
  obtain ⟨o11, e11⟩ := cV_some e11
  refine mm_callV C (pc := 11) (d1 := 1) (As := [.int a2, .int (1 : Int32)]) (st := []) (vk := (some (.int v11))) ((S_X0_fact (by omega)) e11) tT_X0_fact o11 (Or.inr ⟨_, rfl, rfl⟩) wd_1699 wd_961 wd_962 (by omega) (by decide) rfl (by simp [mm_crf, mm_cti, mm_ctl]) rfl dX4_findOthers_11 ?_
  show V _ _ (.int v11 :: _) _
  refine mm_istore C (pc := 14) (i := 5) (lv' := [(5, .int v11), (4, .int v3), (0, va_rf a0), (1, va_rf a1), (2, .int a2), (3, .int a3)]) dX4_findOthers_14 (by decide) rfl ?_
  refine mm_iconst C (pc := 16) (v := (1 : Int32)) dX4_findOthers_16 (by decide) ?_
  refine mm_iload C (pc := 17) 1 dX4_findOthers_17 rfl ?_
  refine mm_ishl C (pc := 19) dX4_findOthers_19 ?_
  refine mm_iconst C (pc := 20) (v := (1 : Int32)) dX4_findOthers_20 (by decide) ?_
  refine mm_iload C (pc := 21) 0 dX4_findOthers_21 rfl ?_
  refine mm_ishl C (pc := 23) dX4_findOthers_23 ?_
  refine mm_ior C (pc := 24) dX4_findOthers_24 ?_
  refine mm_istore C (pc := 25) (i := 6) (lv' := [(6, .int (((1 : Int32) <<< (v3 &&& 31)) ||| ((1 : Int32) <<< (v11 &&& 31)))), (5, .int v11), (4, .int v3), (0, va_rf a0), (1, va_rf a1), (2, .int a2), (3, .int a3)]) dX4_findOthers_25 (by decide) rfl ?_
  refine mm_iconst C (pc := 27) (v := (0 : Int32)) dX4_findOthers_27 (by decide) ?_
  refine mm_istore C (pc := 28) (i := 7) (lv' := [(7, .int (0 : Int32)), (6, .int (((1 : Int32) <<< (v3 &&& 31)) ||| ((1 : Int32) <<< (v11 &&& 31)))), (5, .int v11), (4, .int v3), (0, va_rf a0), (1, va_rf a1), (2, .int a2), (3, .int a3)]) dX4_findOthers_28 (by decide) rfl ?_
  refine mm_iconst C (pc := 30) (v := (0 : Int32)) dX4_findOthers_30 (by decide) ?_
  refine mm_istore C (pc := 31) (i := 8) (lv' := [(8, .int (0 : Int32)), (7, .int (0 : Int32)), (6, .int (((1 : Int32) <<< (v3 &&& 31)) ||| ((1 : Int32) <<< (v11 &&& 31)))), (5, .int v11), (4, .int v3), (0, va_rf a0), (1, va_rf a1), (2, .int a2), (3, .int a3)]) dX4_findOthers_31 (by decide) rfl ?_
  refine mm_iconst C (pc := 33) (v := (0 : Int32)) dX4_findOthers_33 (by decide) ?_
  refine mm_istore C (pc := 34) (i := 9) (lv' := [(9, .int (0 : Int32)), (8, .int (0 : Int32)), (7, .int (0 : Int32)), (6, .int (((1 : Int32) <<< (v3 &&& 31)) ||| ((1 : Int32) <<< (v11 &&& 31)))), (5, .int v11), (4, .int v3), (0, va_rf a0), (1, va_rf a1), (2, .int a2), (3, .int a3)]) dX4_findOthers_34 (by decide) rfl ?_
  refine mm_sub C [6, 7, 8, 9, 3, 2, 1, 0] rfl ?_
  exact w_X4_findOthers_36 hd C _ _ _ _ _ _ _ _ _ _ hK
