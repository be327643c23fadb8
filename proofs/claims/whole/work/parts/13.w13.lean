def F_X12_image_38 : Nat → Option Nat → Int32 → Int32 → MH → Option MH
  | 0 => fun _ _ _ _ => none
  | n + 1 => fun l0 l1 l2 h => if (3205 : Int32) ≤ l2 then (some h) else ((gR h l0 12 2).bind fun v46 => (gR h l0 12 0).bind fun v57 => (aI h v57 0 l2).bind fun v61 => (sI h v46 0 (((3205 : Int32) * l1) + l2) v61).bind fun h62 => F_X12_image_38 n l0 l1 (l2 + (1 : Int32)) h62)
set_option maxRecDepth 20000 in
set_option maxHeartbeats 4000000 in
theorem w_X12_image_38 {d : Nat} {V : Nat → List (Nat × Value) → List Value → MH → Prop} {hz : MH} (hd : 2 ≤ d) (C : mm_C d yX12_image cX12_image 3 none (.inr none) hz V) : ∀ (n : Nat) (l0 : Option Nat) (l1 : Int32) (l2 : Int32) (h : MH), F_X12_image_38 n l0 l1 l2 h = some hz → V 38 [(0, va_rf l0), (1, .int l1), (2, .int l2)] [] h := by
  intro n
  induction n with
  | zero => intro l0 l1 l2 h hK; cases hK
  | succ n ih =>
    intro l0 l1 l2 h hK
    replace hK : (if (3205 : Int32) ≤ l2 then (some h) else ((gR h l0 12 2).bind fun v46 => (gR h l0 12 0).bind fun v57 => (aI h v57 0 l2).bind fun v61 => (sI h v46 0 (((3205 : Int32) * l1) + l2) v61).bind fun h62 => F_X12_image_38 n l0 l1 (l2 + (1 : Int32)) h62)) = some hz := hK
    refine mm_iload_n C (pc := 38) 2 dX12_image_38 rfl ?_
    refine mm_sipush C (pc := 39) (v := (3205 : Int32)) dX12_image_39 (by decide) ?_
    refine mm_icmp_ge C (pc := 42) (tgt := 69) dX12_image_42 (by decide) (fun hc => ?_) (fun hc => ?_)
    · replace hK := mm_ip hc hK
      cases hK
      exact mm_vret C (pc := 69) rfl dX12_image_69 rfl rfl
    · replace hK := mm_in hc hK
      refine mm_aload_n C (pc := 45) 0 dX12_image_45 rfl ?_
      replace hK := mm_bd hK; obtain ⟨v46, e46, hK⟩ := hK
      refine mm_getr C (pc := 46) (k := 2) inGX12 rfl (by decide) wd_1996 dX12_image_46 e46 ?_
      refine mm_sipush C (pc := 49) (v := (3205 : Int32)) dX12_image_49 (by decide) ?_
      refine mm_iload_n C (pc := 52) 1 dX12_image_52 rfl ?_
      refine mm_imul C (pc := 53) dX12_image_53 ?_
      refine mm_iload_n C (pc := 54) 2 dX12_image_54 rfl ?_
      refine mm_iadd C (pc := 55) dX12_image_55 ?_
      refine mm_aload_n C (pc := 56) 0 dX12_image_56 rfl ?_
      replace hK := mm_bd hK; obtain ⟨v57, e57, hK⟩ := hK
      refine mm_getr C (pc := 57) (k := 0) inGX12 rfl (by decide) wd_1994 dX12_image_57 e57 ?_
      refine mm_iload_n C (pc := 60) 2 dX12_image_60 rfl ?_
      replace hK := mm_bd hK; obtain ⟨v61, e61, hK⟩ := hK
      refine mm_iald C (pc := 61) dX12_image_61 e61 ?_
      replace hK := mm_bd hK; obtain ⟨h62, e62, hK⟩ := hK
      refine mm_iast C (pc := 62) dX12_image_62 e62 ?_
      refine mm_iinc C (pc := 63) (v := (l2 + (1 : Int32))) (lv' := [(2, .int (l2 + (1 : Int32))), (0, va_rf l0), (1, .int l1)]) 2 dX12_image_63 rfl rfl (by decide) rfl ?_
      refine mm_goto C (pc := 66) (tgt := 38) dX12_image_66 (by decide) ?_
      refine mm_sub C [1, 2, 0] rfl ?_
      exact ih _ _ _ _ hK
def F_X12_image_18 (l0 : Option Nat) (l1 : Int32) (s0 : Int32) (s1 : Option Nat) (h : MH) : Option MH := (pI h s1 12 4 s0).bind fun h18 => (gI h18 l0 12 4).bind fun v22 => if v22 ≤ 0 then ((gR h18 l0 12 3).bind fun v30 => (sZ h18 v30 l1 (1 : Int32)).bind fun h35 => F_X12_image_38 mm_N l0 l1 (0 : Int32) h35) else (some h18)
set_option maxRecDepth 20000 in
set_option maxHeartbeats 4000000 in
theorem w_X12_image_18 {d : Nat} {V : Nat → List (Nat × Value) → List Value → MH → Prop} {hz : MH} (hd : 2 ≤ d) (C : mm_C d yX12_image cX12_image 3 none (.inr none) hz V) (l0 : Option Nat) (l1 : Int32) (s0 : Int32) (s1 : Option Nat) (h : MH) (hK : F_X12_image_18 l0 l1 s0 s1 h = some hz) : V 18 [(0, va_rf l0), (1, .int l1)] [.int s0, va_rf s1] h := by
  unfold F_X12_image_18 at hK
  replace hK := mm_bd hK; obtain ⟨h18, e18, hK⟩ := hK
  refine mm_puti C (pc := 18) (k := 4) false (fun z => by cases z) inGX12 tyX12 tyX12_ok nmX12 rfl (by decide) wd_1998 rfl rfl dX12_image_18 e18 ?_
  refine mm_aload_n C (pc := 21) 0 dX12_image_21 rfl ?_
  replace hK := mm_bd hK; obtain ⟨v22, e22, hK⟩ := hK
  refine mm_geti C (pc := 22) (k := 4) inGX12 rfl (by decide) wd_1998 dX12_image_22 e22 ?_
  refine mm_if_le C (pc := 25) (tgt := 29) dX12_image_25 (by decide) (fun hc => ?_) (fun hc => ?_)
  · replace hK := mm_ip hc hK
    refine mm_aload_n C (pc := 29) 0 dX12_image_29 rfl ?_
    replace hK := mm_bd hK; obtain ⟨v30, e30, hK⟩ := hK
    refine mm_getr C (pc := 30) (k := 3) inGX12 rfl (by decide) wd_1997 dX12_image_30 e30 ?_
    refine mm_iload_n C (pc := 33) 1 dX12_image_33 rfl ?_
    refine mm_iconst C (pc := 34) (v := (1 : Int32)) dX12_image_34 (by decide) ?_
    replace hK := mm_bd hK; obtain ⟨h35, e35, hK⟩ := hK
    refine mm_zast C (pc := 35) dX12_image_35 e35 ?_
    refine mm_iconst C (pc := 36) (v := (0 : Int32)) dX12_image_36 (by decide) ?_
    refine mm_istore_n C (pc := 37) (i := 2) (lv' := [(2, .int (0 : Int32)), (0, va_rf l0), (1, .int l1)]) dX12_image_37 rfl (by decide) rfl ?_
    refine mm_sub C [1, 2, 0] rfl ?_
    exact w_X12_image_38 hd C _ _ _ _ _ hK
  · replace hK := mm_in hc hK
    cases hK
    exact mm_vret C (pc := 28) rfl dX12_image_28 rfl rfl
def F_X12_image (a0 : Option Nat) (a1 : Int32) (h : MH) : Option MH := mm_b2 (F_X12_within (a1.toInt64) (0 : Int64) (2 : Int64) h) fun v7 h7 => if v7 = 0 then (F_X12_image_18 a0 a1 (1 : Int32) a0 h7) else (F_X12_image_18 a0 a1 (0 : Int32) a0 h7)
set_option maxRecDepth 20000 in
set_option maxHeartbeats 4000000 in
theorem S_X12_image {d : Nat} (hd : 2 ≤ d) {a0 : Option Nat} {a1 : Int32} {h : MH} {hz : MH} (hK : F_X12_image a0 a1 h = some hz) : mm_M yX12_image cX12_image 3 none d [va_rf a0, .int a1] h (.inr none) hz := by
  refine mm_ofV (by decide +kernel) (by simp [lg_sl, mm_crf, mm_cti, mm_ctl]) (fun V C => ?_)
  rw [show lv_args 0 [va_rf a0, .int a1] = [(0, va_rf a0), (1, .int a1)] by simp [lv_args, mm_crf, mm_cti, mm_ctl]]
  unfold F_X12_image at hK
  refine mm_aload_n C (pc := 0) 0 dX12_image_0 rfl ?_
  refine mm_iload_n C (pc := 1) 1 dX12_image_1 rfl ?_
  refine mm_i2l C (pc := 2) dX12_image_2 ?_
  refine mm_lconst C (pc := 3) (v := (0 : Int64)) dX12_image_3 (by decide) ?_
  refine mm_ldc2 C (pc := 4) (v := (2 : Int64)) dX12_image_4 wd_2306 ?_
  replace hK := mm_b2s hK; obtain ⟨v7, h7, e7, hK⟩ := hK
  refine mm_callS C (pc := 7) (d1 := 1) (As := [.long (a1.toInt64), .long (0 : Int64), .long (2 : Int64)]) (st := [va_rf a0]) (vk := (some (.int v7))) ((S_X12_within (by omega)) e7) tT_X12_within wd_2152 wd_2153 (by omega) (by decide) rfl (by simp [mm_crf, mm_cti, mm_ctl]) rfl dX12_image_7 ?_
  show V _ _ (.int v7 :: _) _
  refine mm_if_eq C (pc := 10) (tgt := 17) dX12_image_10 (by decide) (fun hc => ?_) (fun hc => ?_)
  · replace hK := mm_ip hc hK
    refine mm_iconst C (pc := 17) (v := (1 : Int32)) dX12_image_17 (by decide) ?_
    exact w_X12_image_18 hd C _ _ _ _ _ hK
  · replace hK := mm_in hc hK
    refine mm_iconst C (pc := 13) (v := (0 : Int32)) dX12_image_13 (by decide) ?_
    refine mm_goto C (pc := 14) (tgt := 18) dX12_image_14 (by decide) ?_
    exact w_X12_image_18 hd C _ _ _ _ _ hK
def F_X12_restore_44 : Nat → Option Nat → Int32 → Int32 → MH → Option MH
  | 0 => fun _ _ _ _ => none
  | n + 1 => fun l0 l1 l2 h => if (3205 : Int32) ≤ l2 then (some h) else ((gR h l0 12 0).bind fun v52 => (gR h l0 12 2).bind fun v57 => (aI h v57 0 (((3205 : Int32) * l1) + l2)).bind fun v67 => (sI h v52 0 l2 v67).bind fun h68 => F_X12_restore_44 n l0 l1 (l2 + (1 : Int32)) h68)
set_option maxRecDepth 20000 in
set_option maxHeartbeats 4000000 in
theorem w_X12_restore_44 {d : Nat} {V : Nat → List (Nat × Value) → List Value → MH → Prop} {hz : MH} (hd : 2 ≤ d) (C : mm_C d yX12_restore cX12_restore 3 none (.inr none) hz V) : ∀ (n : Nat) (l0 : Option Nat) (l1 : Int32) (l2 : Int32) (h : MH), F_X12_restore_44 n l0 l1 l2 h = some hz → V 44 [(0, va_rf l0), (1, .int l1), (2, .int l2)] [] h := by
  intro n
  induction n with
  | zero => intro l0 l1 l2 h hK; cases hK
  | succ n ih =>
    intro l0 l1 l2 h hK
    replace hK : (if (3205 : Int32) ≤ l2 then (some h) else ((gR h l0 12 0).bind fun v52 => (gR h l0 12 2).bind fun v57 => (aI h v57 0 (((3205 : Int32) * l1) + l2)).bind fun v67 => (sI h v52 0 l2 v67).bind fun h68 => F_X12_restore_44 n l0 l1 (l2 + (1 : Int32)) h68)) = some hz := hK
    refine mm_iload_n C (pc := 44) 2 dX12_restore_44 rfl ?_
    refine mm_sipush C (pc := 45) (v := (3205 : Int32)) dX12_restore_45 (by decide) ?_
    refine mm_icmp_ge C (pc := 48) (tgt := 75) dX12_restore_48 (by decide) (fun hc => ?_) (fun hc => ?_)
    · replace hK := mm_ip hc hK
      cases hK
      exact mm_vret C (pc := 75) rfl dX12_restore_75 rfl rfl
    · replace hK := mm_in hc hK
      refine mm_aload_n C (pc := 51) 0 dX12_restore_51 rfl ?_
      replace hK := mm_bd hK; obtain ⟨v52, e52, hK⟩ := hK
      refine mm_getr C (pc := 52) (k := 0) inGX12 rfl (by decide) wd_1994 dX12_restore_52 e52 ?_
      refine mm_iload_n C (pc := 55) 2 dX12_restore_55 rfl ?_
      refine mm_aload_n C (pc := 56) 0 dX12_restore_56 rfl ?_
      replace hK := mm_bd hK; obtain ⟨v57, e57, hK⟩ := hK
      refine mm_getr C (pc := 57) (k := 2) inGX12 rfl (by decide) wd_1996 dX12_restore_57 e57 ?_
      refine mm_sipush C (pc := 60) (v := (3205 : Int32)) dX12_restore_60 (by decide) ?_
      refine mm_iload_n C (pc := 63) 1 dX12_restore_63 rfl ?_
      refine mm_imul C (pc := 64) dX12_restore_64 ?_
      refine mm_iload_n C (pc := 65) 2 dX12_restore_65 rfl ?_
      refine mm_iadd C (pc := 66) dX12_restore_66 ?_
      replace hK := mm_bd hK; obtain ⟨v67, e67, hK⟩ := hK
      refine mm_iald C (pc := 67) dX12_restore_67 e67 ?_
      replace hK := mm_bd hK; obtain ⟨h68, e68, hK⟩ := hK
      refine mm_iast C (pc := 68) dX12_restore_68 e68 ?_
      refine mm_iinc C (pc := 69) (v := (l2 + (1 : Int32))) (lv' := [(2, .int (l2 + (1 : Int32))), (0, va_rf l0), (1, .int l1)]) 2 dX12_restore_69 rfl rfl (by decide) rfl ?_
      refine mm_goto C (pc := 72) (tgt := 44) dX12_restore_72 (by decide) ?_
      refine mm_sub C [1, 2, 0] rfl ?_
      exact ih _ _ _ _ hK
def F_X12_restore_31 (l0 : Option Nat) (l1 : Int32) (s0 : Int32) (s1 : Option Nat) (h : MH) : Option MH := (pI h s1 12 4 s0).bind fun h31 => (gI h31 l0 12 4).bind fun v35 => if v35 ≤ 0 then (F_X12_restore_44 mm_N l0 l1 (0 : Int32) h31) else (some h31)
set_option maxRecDepth 20000 in
set_option maxHeartbeats 4000000 in
theorem w_X12_restore_31 {d : Nat} {V : Nat → List (Nat × Value) → List Value → MH → Prop} {hz : MH} (hd : 2 ≤ d) (C : mm_C d yX12_restore cX12_restore 3 none (.inr none) hz V) (l0 : Option Nat) (l1 : Int32) (s0 : Int32) (s1 : Option Nat) (h : MH) (hK : F_X12_restore_31 l0 l1 s0 s1 h = some hz) : V 31 [(0, va_rf l0), (1, .int l1)] [.int s0, va_rf s1] h := by
  unfold F_X12_restore_31 at hK
  replace hK := mm_bd hK; obtain ⟨h31, e31, hK⟩ := hK
  refine mm_puti C (pc := 31) (k := 4) false (fun z => by cases z) inGX12 tyX12 tyX12_ok nmX12 rfl (by decide) wd_1998 rfl rfl dX12_restore_31 e31 ?_
  refine mm_aload_n C (pc := 34) 0 dX12_restore_34 rfl ?_
  replace hK := mm_bd hK; obtain ⟨v35, e35, hK⟩ := hK
  refine mm_geti C (pc := 35) (k := 4) inGX12 rfl (by decide) wd_1998 dX12_restore_35 e35 ?_
  refine mm_if_le C (pc := 38) (tgt := 42) dX12_restore_38 (by decide) (fun hc => ?_) (fun hc => ?_)
  · replace hK := mm_ip hc hK
    refine mm_iconst C (pc := 42) (v := (0 : Int32)) dX12_restore_42 (by decide) ?_
    refine mm_istore_n C (pc := 43) (i := 2) (lv' := [(2, .int (0 : Int32)), (0, va_rf l0), (1, .int l1)]) dX12_restore_43 rfl (by decide) rfl ?_
    refine mm_sub C [1, 2, 0] rfl ?_
    exact w_X12_restore_44 hd C _ _ _ _ _ hK
  · replace hK := mm_in hc hK
    cases hK
    exact mm_vret C (pc := 41) rfl dX12_restore_41 rfl rfl
def F_X12_restore (a0 : Option Nat) (a1 : Int32) (h : MH) : Option MH := mm_b2 (F_X12_within (a1.toInt64) (0 : Int64) (2 : Int64) h) fun v7 h7 => if v7 = 0 then (F_X12_restore_31 a0 a1 (1 : Int32) a0 h7) else ((gR h7 a0 12 3).bind fun v18 => (aI h7 v18 3 a1).bind fun v22 => if v22 = 0 then (F_X12_restore_31 a0 a1 (2 : Int32) a0 h7) else (F_X12_restore_31 a0 a1 (0 : Int32) a0 h7))
set_option maxRecDepth 20000 in
set_option maxHeartbeats 4000000 in
theorem S_X12_restore {d : Nat} (hd : 2 ≤ d) {a0 : Option Nat} {a1 : Int32} {h : MH} {hz : MH} (hK : F_X12_restore a0 a1 h = some hz) : mm_M yX12_restore cX12_restore 3 none d [va_rf a0, .int a1] h (.inr none) hz := by
  refine mm_ofV (by decide +kernel) (by simp [lg_sl, mm_crf, mm_cti, mm_ctl]) (fun V C => ?_)
  rw [show lv_args 0 [va_rf a0, .int a1] = [(0, va_rf a0), (1, .int a1)] by simp [lv_args, mm_crf, mm_cti, mm_ctl]]
  unfold F_X12_restore at hK
  refine mm_aload_n C (pc := 0) 0 dX12_restore_0 rfl ?_
  refine mm_iload_n C (pc := 1) 1 dX12_restore_1 rfl ?_
  refine mm_i2l C (pc := 2) dX12_restore_2 ?_
  refine mm_lconst C (pc := 3) (v := (0 : Int64)) dX12_restore_3 (by decide) ?_
  refine mm_ldc2 C (pc := 4) (v := (2 : Int64)) dX12_restore_4 wd_2306 ?_
  replace hK := mm_b2s hK; obtain ⟨v7, h7, e7, hK⟩ := hK
  refine mm_callS C (pc := 7) (d1 := 1) (As := [.long (a1.toInt64), .long (0 : Int64), .long (2 : Int64)]) (st := [va_rf a0]) (vk := (some (.int v7))) ((S_X12_within (by omega)) e7) tT_X12_within wd_2152 wd_2153 (by omega) (by decide) rfl (by simp [mm_crf, mm_cti, mm_ctl]) rfl dX12_restore_7 ?_
  show V _ _ (.int v7 :: _) _
  refine mm_if_ne C (pc := 10) (tgt := 17) dX12_restore_10 (by decide) (fun hc => ?_) (fun hc => ?_)
  · replace hK := mm_in hc hK
    refine mm_aload_n C (pc := 17) 0 dX12_restore_17 rfl ?_
    replace hK := mm_bd hK; obtain ⟨v18, e18, hK⟩ := hK
    refine mm_getr C (pc := 18) (k := 3) inGX12 rfl (by decide) wd_1997 dX12_restore_18 e18 ?_
    refine mm_iload_n C (pc := 21) 1 dX12_restore_21 rfl ?_
    replace hK := mm_bd hK; obtain ⟨v22, e22, hK⟩ := hK
    refine mm_zald C (pc := 22) dX12_restore_22 e22 ?_
    refine mm_if_ne C (pc := 23) (tgt := 30) dX12_restore_23 (by decide) (fun hc => ?_) (fun hc => ?_)
    · replace hK := mm_in hc hK
      refine mm_iconst C (pc := 30) (v := (0 : Int32)) dX12_restore_30 (by decide) ?_
      exact w_X12_restore_31 hd C _ _ _ _ _ hK
    · replace hK := mm_ip hc hK
      refine mm_iconst C (pc := 26) (v := (2 : Int32)) dX12_restore_26 (by decide) ?_
      refine mm_goto C (pc := 27) (tgt := 31) dX12_restore_27 (by decide) ?_
      exact w_X12_restore_31 hd C _ _ _ _ _ hK
  · replace hK := mm_ip hc hK
    refine mm_iconst C (pc := 13) (v := (1 : Int32)) dX12_restore_13 (by decide) ?_
    refine mm_goto C (pc := 14) (tgt := 31) dX12_restore_14 (by decide) ?_
    exact w_X12_restore_31 hd C _ _ _ _ _ hK
def F_X12_count (a0 : Option Nat) (a1 : Int32) (h : MH) : Option (Int32 × MH) := (pI h a0 12 4 (0 : Int32)).bind fun h2 => if a1 = (0 : Int32) then ((gR h2 a0 12 0).bind fun v69 => (aI h2 v69 0 (0 : Int32)).bind fun v73 => some (v73, h2)) else if a1 = (1 : Int32) then ((gR h2 a0 12 0).bind fun v76 => (aI h2 v76 0 (1 : Int32)).bind fun v80 => some (v80, h2)) else if a1 = (2 : Int32) then ((gR h2 a0 12 0).bind fun v83 => (aI h2 v83 0 (2 : Int32)).bind fun v87 => some (v87, h2)) else if a1 = (3 : Int32) then (mm_b2 (cV h2 a0 12 (F_X12_calls a0 h2)) fun v90 h90 => some (v90, h90)) else if a1 = (4 : Int32) then (mm_b2 (cV h2 a0 12 (F_X12_callsThat a0 (0 : Int32) h2)) fun v96 h96 => some (v96, h96)) else if a1 = (5 : Int32) then (mm_b2 (cV h2 a0 12 (F_X12_callsThat a0 (1 : Int32) h2)) fun v102 h102 => some (v102, h102)) else if a1 = (6 : Int32) then (mm_b2 (cV h2 a0 12 (F_X12_callsThat a0 (2 : Int32) h2)) fun v108 h108 => some (v108, h108)) else if a1 = (7 : Int32) then (mm_b2 (cV h2 a0 12 (F_X12_callsThat a0 (3 : Int32) h2)) fun v114 h114 => some (v114, h114)) else if a1 = (8 : Int32) then (mm_b2 (cV h2 a0 12 (F_X12_twosWed a0 h2)) fun v119 h119 => some (v119, h119)) else if a1 = (9 : Int32) then ((gR h2 a0 12 0).bind fun v124 => (aI h2 v124 0 (47 : Int32)).bind fun v129 => some (v129, h2)) else if a1 = (10 : Int32) then ((gR h2 a0 12 0).bind fun v132 => (aI h2 v132 0 (6 : Int32)).bind fun v137 => some (v137, h2)) else if a1 = (11 : Int32) then ((gI h2 a0 12 6).bind fun v140 => some (v140, h2)) else (some (((-1) : Int32), h2))
set_option maxRecDepth 20000 in
set_option maxHeartbeats 4000000 in
theorem S_X12_count {d : Nat} (hd : 3 ≤ d) {a0 : Option Nat} {a1 : Int32} {h : MH} {r : Int32} {hz : MH} (hK : F_X12_count a0 a1 h = some (r, hz)) : mm_M yX12_count cX12_count 2 (some .int) d [va_rf a0, .int a1] h (.inr (some (.int r))) hz := by
  refine mm_ofV (by decide +kernel) (by simp [lg_sl, mm_crf, mm_cti, mm_ctl]) (fun V C => ?_)
  rw [show lv_args 0 [va_rf a0, .int a1] = [(0, va_rf a0), (1, .int a1)] by simp [lv_args, mm_crf, mm_cti, mm_ctl]]
  unfold F_X12_count at hK
  refine mm_aload_n C (pc := 0) 0 dX12_count_0 rfl ?_
  refine mm_iconst C (pc := 1) (v := (0 : Int32)) dX12_count_1 (by decide) ?_
  replace hK := mm_bd hK; obtain ⟨h2, e2, hK⟩ := hK
  refine mm_puti C (pc := 2) (k := 4) false (fun z => by cases z) inGX12 tyX12 tyX12_ok nmX12 rfl (by decide) wd_1998 rfl rfl dX12_count_2 e2 ?_
  refine mm_iload_n C (pc := 5) 1 dX12_count_5 rfl ?_
  by_cases hc6_0 : a1 = (0 : Int32)
  · replace hK := mm_ip hc6_0 hK
    refine mm_tableIn C (pc := 6) (tgt := 68) (off := 62) dX12_count_6 (by rw [hc6_0]; decide) (by rw [hc6_0]; decide) (by rw [hc6_0]; rfl) (by decide) ?_
    refine mm_aload_n C (pc := 68) 0 dX12_count_68 rfl ?_
    replace hK := mm_bd hK; obtain ⟨v69, e69, hK⟩ := hK
    refine mm_getr C (pc := 69) (k := 0) inGX12 rfl (by decide) wd_1994 dX12_count_69 e69 ?_
    refine mm_iconst C (pc := 72) (v := (0 : Int32)) dX12_count_72 (by decide) ?_
    replace hK := mm_bd hK; obtain ⟨v73, e73, hK⟩ := hK
    refine mm_iald C (pc := 73) dX12_count_73 e73 ?_
    cases hK
    exact mm_iret C (pc := 74) rfl dX12_count_74 rfl rfl
  replace hK := mm_in hc6_0 hK
  by_cases hc6_1 : a1 = (1 : Int32)
  · replace hK := mm_ip hc6_1 hK
    refine mm_tableIn C (pc := 6) (tgt := 75) (off := 69) dX12_count_6 (by rw [hc6_1]; decide) (by rw [hc6_1]; decide) (by rw [hc6_1]; rfl) (by decide) ?_
    refine mm_aload_n C (pc := 75) 0 dX12_count_75 rfl ?_
    replace hK := mm_bd hK; obtain ⟨v76, e76, hK⟩ := hK
    refine mm_getr C (pc := 76) (k := 0) inGX12 rfl (by decide) wd_1994 dX12_count_76 e76 ?_
    refine mm_iconst C (pc := 79) (v := (1 : Int32)) dX12_count_79 (by decide) ?_
    replace hK := mm_bd hK; obtain ⟨v80, e80, hK⟩ := hK
    refine mm_iald C (pc := 80) dX12_count_80 e80 ?_
    cases hK
    exact mm_iret C (pc := 81) rfl dX12_count_81 rfl rfl
  replace hK := mm_in hc6_1 hK
  by_cases hc6_2 : a1 = (2 : Int32)
  · replace hK := mm_ip hc6_2 hK
    refine mm_tableIn C (pc := 6) (tgt := 82) (off := 76) dX12_count_6 (by rw [hc6_2]; decide) (by rw [hc6_2]; decide) (by rw [hc6_2]; rfl) (by decide) ?_
    refine mm_aload_n C (pc := 82) 0 dX12_count_82 rfl ?_
    replace hK := mm_bd hK; obtain ⟨v83, e83, hK⟩ := hK
    refine mm_getr C (pc := 83) (k := 0) inGX12 rfl (by decide) wd_1994 dX12_count_83 e83 ?_
    refine mm_iconst C (pc := 86) (v := (2 : Int32)) dX12_count_86 (by decide) ?_
    replace hK := mm_bd hK; obtain ⟨v87, e87, hK⟩ := hK
    refine mm_iald C (pc := 87) dX12_count_87 e87 ?_
    cases hK
    exact mm_iret C (pc := 88) rfl dX12_count_88 rfl rfl
  replace hK := mm_in hc6_2 hK
  by_cases hc6_3 : a1 = (3 : Int32)
  · replace hK := mm_ip hc6_3 hK
    refine mm_tableIn C (pc := 6) (tgt := 89) (off := 83) dX12_count_6 (by rw [hc6_3]; decide) (by rw [hc6_3]; decide) (by rw [hc6_3]; rfl) (by decide) ?_
    refine mm_aload_n C (pc := 89) 0 dX12_count_89 rfl ?_
    replace hK := mm_b2s hK; obtain ⟨v90, h90, e90, hK⟩ := hK
    obtain ⟨o90, e90⟩ := cV_some e90
    refine mm_callV C (pc := 90) (d1 := 1) (As := []) (st := []) (vk := (some (.int v90))) ((S_X12_calls (by omega)) e90) tT_X12_calls o90 (Or.inr ⟨_, rfl, rfl⟩) wd_2290 wd_2292 wd_86 (by omega) (by decide) rfl (by simp [mm_crf, mm_cti, mm_ctl]) rfl dX12_count_90 ?_
    show V _ _ (.int v90 :: _) _
    cases hK
    exact mm_iret C (pc := 93) rfl dX12_count_93 rfl rfl
  replace hK := mm_in hc6_3 hK
  by_cases hc6_4 : a1 = (4 : Int32)
  · replace hK := mm_ip hc6_4 hK
    refine mm_tableIn C (pc := 6) (tgt := 94) (off := 88) dX12_count_6 (by rw [hc6_4]; decide) (by rw [hc6_4]; decide) (by rw [hc6_4]; rfl) (by decide) ?_
    refine mm_aload_n C (pc := 94) 0 dX12_count_94 rfl ?_
    refine mm_iconst C (pc := 95) (v := (0 : Int32)) dX12_count_95 (by decide) ?_
    replace hK := mm_b2s hK; obtain ⟨v96, h96, e96, hK⟩ := hK
    obtain ⟨o96, e96⟩ := cV_some e96
    refine mm_callV C (pc := 96) (d1 := 2) (As := [.int (0 : Int32)]) (st := []) (vk := (some (.int v96))) ((S_X12_callsThat (by omega)) e96) tT_X12_callsThat o96 (Or.inr ⟨_, rfl, rfl⟩) wd_2456 wd_2458 wd_107 (by omega) (by decide) rfl (by simp [mm_crf, mm_cti, mm_ctl]) rfl dX12_count_96 ?_
    show V _ _ (.int v96 :: _) _
    cases hK
    exact mm_iret C (pc := 99) rfl dX12_count_99 rfl rfl
  replace hK := mm_in hc6_4 hK
  by_cases hc6_5 : a1 = (5 : Int32)
  · replace hK := mm_ip hc6_5 hK
    refine mm_tableIn C (pc := 6) (tgt := 100) (off := 94) dX12_count_6 (by rw [hc6_5]; decide) (by rw [hc6_5]; decide) (by rw [hc6_5]; rfl) (by decide) ?_
    refine mm_aload_n C (pc := 100) 0 dX12_count_100 rfl ?_
    refine mm_iconst C (pc := 101) (v := (1 : Int32)) dX12_count_101 (by decide) ?_
    replace hK := mm_b2s hK; obtain ⟨v102, h102, e102, hK⟩ := hK
    obtain ⟨o102, e102⟩ := cV_some e102
    refine mm_callV C (pc := 102) (d1 := 2) (As := [.int (1 : Int32)]) (st := []) (vk := (some (.int v102))) ((S_X12_callsThat (by omega)) e102) tT_X12_callsThat o102 (Or.inr ⟨_, rfl, rfl⟩) wd_2456 wd_2458 wd_107 (by omega) (by decide) rfl (by simp [mm_crf, mm_cti, mm_ctl]) rfl dX12_count_102 ?_
    show V _ _ (.int v102 :: _) _
    cases hK
    exact mm_iret C (pc := 105) rfl dX12_count_105 rfl rfl
  replace hK := mm_in hc6_5 hK
  by_cases hc6_6 : a1 = (6 : Int32)
  · replace hK := mm_ip hc6_6 hK
    refine mm_tableIn C (pc := 6) (tgt := 106) (off := 100) dX12_count_6 (by rw [hc6_6]; decide) (by rw [hc6_6]; decide) (by rw [hc6_6]; rfl) (by decide) ?_
    refine mm_aload_n C (pc := 106) 0 dX12_count_106 rfl ?_
    refine mm_iconst C (pc := 107) (v := (2 : Int32)) dX12_count_107 (by decide) ?_
    replace hK := mm_b2s hK; obtain ⟨v108, h108, e108, hK⟩ := hK
    obtain ⟨o108, e108⟩ := cV_some e108
    refine mm_callV C (pc := 108) (d1 := 2) (As := [.int (2 : Int32)]) (st := []) (vk := (some (.int v108))) ((S_X12_callsThat (by omega)) e108) tT_X12_callsThat o108 (Or.inr ⟨_, rfl, rfl⟩) wd_2456 wd_2458 wd_107 (by omega) (by decide) rfl (by simp [mm_crf, mm_cti, mm_ctl]) rfl dX12_count_108 ?_
    show V _ _ (.int v108 :: _) _
    cases hK
    exact mm_iret C (pc := 111) rfl dX12_count_111 rfl rfl
  replace hK := mm_in hc6_6 hK
  by_cases hc6_7 : a1 = (7 : Int32)
  · replace hK := mm_ip hc6_7 hK
    refine mm_tableIn C (pc := 6) (tgt := 112) (off := 106) dX12_count_6 (by rw [hc6_7]; decide) (by rw [hc6_7]; decide) (by rw [hc6_7]; rfl) (by decide) ?_
    refine mm_aload_n C (pc := 112) 0 dX12_count_112 rfl ?_
    refine mm_iconst C (pc := 113) (v := (3 : Int32)) dX12_count_113 (by decide) ?_
    replace hK := mm_b2s hK; obtain ⟨v114, h114, e114, hK⟩ := hK
    obtain ⟨o114, e114⟩ := cV_some e114
    refine mm_callV C (pc := 114) (d1 := 2) (As := [.int (3 : Int32)]) (st := []) (vk := (some (.int v114))) ((S_X12_callsThat (by omega)) e114) tT_X12_callsThat o114 (Or.inr ⟨_, rfl, rfl⟩) wd_2456 wd_2458 wd_107 (by omega) (by decide) rfl (by simp [mm_crf, mm_cti, mm_ctl]) rfl dX12_count_114 ?_
    show V _ _ (.int v114 :: _) _
    cases hK
    exact mm_iret C (pc := 117) rfl dX12_count_117 rfl rfl
  replace hK := mm_in hc6_7 hK
  by_cases hc6_8 : a1 = (8 : Int32)
  · replace hK := mm_ip hc6_8 hK
    refine mm_tableIn C (pc := 6) (tgt := 118) (off := 112) dX12_count_6 (by rw [hc6_8]; decide) (by rw [hc6_8]; decide) (by rw [hc6_8]; rfl) (by decide) ?_
    refine mm_aload_n C (pc := 118) 0 dX12_count_118 rfl ?_
    replace hK := mm_b2s hK; obtain ⟨v119, h119, e119, hK⟩ := hK
    obtain ⟨o119, e119⟩ := cV_some e119
    refine mm_callV C (pc := 119) (d1 := 1) (As := []) (st := []) (vk := (some (.int v119))) ((S_X12_twosWed (by omega)) e119) tT_X12_twosWed o119 (Or.inr ⟨_, rfl, rfl⟩) wd_2460 wd_2462 wd_108 (by omega) (by decide) rfl (by simp [mm_crf, mm_cti, mm_ctl]) rfl dX12_count_119 ?_
    show V _ _ (.int v119 :: _) _
    cases hK
    exact mm_iret C (pc := 122) rfl dX12_count_122 rfl rfl
  replace hK := mm_in hc6_8 hK
  by_cases hc6_9 : a1 = (9 : Int32)
  · replace hK := mm_ip hc6_9 hK
    refine mm_tableIn C (pc := 6) (tgt := 123) (off := 117) dX12_count_6 (by rw [hc6_9]; decide) (by rw [hc6_9]; decide) (by rw [hc6_9]; rfl) (by decide) ?_
    refine mm_aload_n C (pc := 123) 0 dX12_count_123 rfl ?_
    replace hK := mm_bd hK; obtain ⟨v124, e124, hK⟩ := hK
    refine mm_getr C (pc := 124) (k := 0) inGX12 rfl (by decide) wd_1994 dX12_count_124 e124 ?_
    refine mm_bipush C (pc := 127) (v := (47 : Int32)) dX12_count_127 (by decide) ?_
    replace hK := mm_bd hK; obtain ⟨v129, e129, hK⟩ := hK
    refine mm_iald C (pc := 129) dX12_count_129 e129 ?_
    cases hK
    exact mm_iret C (pc := 130) rfl dX12_count_130 rfl rfl
  replace hK := mm_in hc6_9 hK
  by_cases hc6_10 : a1 = (10 : Int32)
  · replace hK := mm_ip hc6_10 hK
    refine mm_tableIn C (pc := 6) (tgt := 131) (off := 125) dX12_count_6 (by rw [hc6_10]; decide) (by rw [hc6_10]; decide) (by rw [hc6_10]; rfl) (by decide) ?_
    refine mm_aload_n C (pc := 131) 0 dX12_count_131 rfl ?_
    replace hK := mm_bd hK; obtain ⟨v132, e132, hK⟩ := hK
    refine mm_getr C (pc := 132) (k := 0) inGX12 rfl (by decide) wd_1994 dX12_count_132 e132 ?_
    refine mm_bipush C (pc := 135) (v := (6 : Int32)) dX12_count_135 (by decide) ?_
    replace hK := mm_bd hK; obtain ⟨v137, e137, hK⟩ := hK
    refine mm_iald C (pc := 137) dX12_count_137 e137 ?_
    cases hK
    exact mm_iret C (pc := 138) rfl dX12_count_138 rfl rfl
  replace hK := mm_in hc6_10 hK
  by_cases hc6_11 : a1 = (11 : Int32)
  · replace hK := mm_ip hc6_11 hK
    refine mm_tableIn C (pc := 6) (tgt := 139) (off := 133) dX12_count_6 (by rw [hc6_11]; decide) (by rw [hc6_11]; decide) (by rw [hc6_11]; rfl) (by decide) ?_
    refine mm_aload_n C (pc := 139) 0 dX12_count_139 rfl ?_
    replace hK := mm_bd hK; obtain ⟨v140, e140, hK⟩ := hK
    refine mm_geti C (pc := 140) (k := 6) inGX12 rfl (by decide) wd_2000 dX12_count_140 e140 ?_
    cases hK
    exact mm_iret C (pc := 143) rfl dX12_count_143 rfl rfl
  replace hK := mm_in hc6_11 hK
  refine mm_tableOut C (pc := 6) (tgt := 144) dX12_count_6 (by have t0 := mm_nei hc6_0 (k := 0) (by decide); have t1 := mm_nei hc6_1 (k := 1) (by decide); have t2 := mm_nei hc6_2 (k := 2) (by decide); have t3 := mm_nei hc6_3 (k := 3) (by decide); have t4 := mm_nei hc6_4 (k := 4) (by decide); have t5 := mm_nei hc6_5 (k := 5) (by decide); have t6 := mm_nei hc6_6 (k := 6) (by decide); have t7 := mm_nei hc6_7 (k := 7) (by decide); have t8 := mm_nei hc6_8 (k := 8) (by decide); have t9 := mm_nei hc6_9 (k := 9) (by decide); have t10 := mm_nei hc6_10 (k := 10) (by decide); have t11 := mm_nei hc6_11 (k := 11) (by decide); omega) (by decide) ?_
  refine mm_iconst C (pc := 144) (v := ((-1) : Int32)) dX12_count_144 (by decide) ?_
  cases hK
  exact mm_iret C (pc := 145) rfl dX12_count_145 rfl rfl
