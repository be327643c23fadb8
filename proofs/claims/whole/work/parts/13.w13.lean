theorem wd_2704 : Cond.code yX12_mostAlike cX12_mostAlike 5 (some .int) ∈ lw_good := mm_wd 2704 (by decide +kernel) (by decide +kernel)
theorem tT_X12_mostAlike : mm_T yX12_mostAlike cX12_mostAlike 5 (some .int) 1 := ⟨wd_2704, wd_170, by decide +kernel, by decide +kernel, by decide +kernel, by decide +kernel⟩
theorem wd_2701 : Cond.methodLink RX12 549 yX12_mostAlike ∈ lw_good := mm_wd 2701 (by decide +kernel) (by decide +kernel)
theorem wd_2703 : Cond.instanceMethod yX12_mostAlike ∈ lw_good := mm_wd 2703 (by decide +kernel) (by decide +kernel)
theorem wd_139 : Cond.selects RX12 yX12_mostAlike yX12_mostAlike ∈ lw_good := mm_wd 139 (by decide +kernel) (by decide +kernel)
def F_X12_ask_77 (l2 : Int32) (h : MH) : Option (Int32 × MH) := some (l2, h)
set_option maxRecDepth 20000 in
set_option maxHeartbeats 4000000 in
theorem w_X12_ask_77 {d : Nat} {V : Nat → List (Nat × Value) → List Value → MH → Prop} {r : Int32} {hz : MH} (hd : 5 ≤ d) (C : mm_C d yX12_ask cX12_ask 6 (some .int) (.inr (some (.int r))) hz V) (l2 : Int32) (h : MH) (hK : F_X12_ask_77 l2 h = some (r, hz)) : V 77 [(2, .int l2)] [] h := by
  unfold F_X12_ask_77 at hK
  refine mm_iload_n C (pc := 77) 0 dX12_ask_77 rfl ?_
  cases hK
  exact mm_iret C (pc := 78) rfl dX12_ask_78 rfl rfl
def F_X12_ask_71 (k32 : Option Nat → Int32 → Int32 → Int32 → MH → Option (Int32 × MH)) (l0 : Option Nat) (l2 : Int32) (l3 : Int32) (l4 : Int32) (h : MH) : Option (Int32 × MH) := k32 l0 l2 l3 (l4 + (1 : Int32)) h
set_option maxRecDepth 20000 in
set_option maxHeartbeats 4000000 in
theorem w_X12_ask_71 {d : Nat} {V : Nat → List (Nat × Value) → List Value → MH → Prop} {r : Int32} {hz : MH} {k32 : Option Nat → Int32 → Int32 → Int32 → MH → Option (Int32 × MH)} (hd : 5 ≤ d) (C : mm_C d yX12_ask cX12_ask 6 (some .int) (.inr (some (.int r))) hz V) (q32 : ∀ (x0 : Option Nat) (x1 : Int32) (x2 : Int32) (x3 : Int32) (h : MH), k32 x0 x1 x2 x3 h = some (r, hz) → V 32 [(0, va_rf x0), (2, .int x1), (3, .int x2), (4, .int x3)] [] h) (l0 : Option Nat) (l2 : Int32) (l3 : Int32) (l4 : Int32) (h : MH) (hK : F_X12_ask_71 k32 l0 l2 l3 l4 h = some (r, hz)) : V 71 [(0, va_rf l0), (2, .int l2), (3, .int l3), (4, .int l4)] [] h := by
  unfold F_X12_ask_71 at hK
  refine mm_iinc C (pc := 71) (v := (l4 + (1 : Int32))) (lv' := [(4, .int (l4 + (1 : Int32))), (0, va_rf l0), (2, .int l2), (3, .int l3)]) 3 dX12_ask_71 rfl rfl (by decide) rfl ?_
  refine mm_goto C (pc := 74) (tgt := 32) dX12_ask_74 (by decide) ?_
  refine mm_sub C [1, 2, 3, 0] rfl ?_
  exact q32 _ _ _ _ _ hK
def F_X12_ask_32 : Nat → Option Nat → Int32 → Int32 → Int32 → MH → Option (Int32 × MH)
  | 0 => fun _ _ _ _ _ => none
  | n + 1 => fun l0 l2 l3 l4 h => mm_b2 (cV h l0 12 (F_X12_calls l0 h)) fun v35 h35 => if v35 ≤ l4 then (F_X12_ask_77 l2 h35) else ((gI h35 l0 12 43).bind fun v42 => if v42 ≤ 0 then (F_X12_ask_77 l2 h35) else (mm_b2 (cV h35 l0 12 (F_X12_mostAlike l0 l4 h35)) fun v51 h51 => if v51 < l3 then (F_X12_ask_71 (F_X12_ask_32 n) l0 l4 v51 l4 h51) else (F_X12_ask_71 (F_X12_ask_32 n) l0 l2 l3 l4 h51)))
set_option maxRecDepth 20000 in
set_option maxHeartbeats 4000000 in
theorem w_X12_ask_32 {d : Nat} {V : Nat → List (Nat × Value) → List Value → MH → Prop} {r : Int32} {hz : MH} (hd : 5 ≤ d) (C : mm_C d yX12_ask cX12_ask 6 (some .int) (.inr (some (.int r))) hz V) : ∀ (n : Nat) (l0 : Option Nat) (l2 : Int32) (l3 : Int32) (l4 : Int32) (h : MH), F_X12_ask_32 n l0 l2 l3 l4 h = some (r, hz) → V 32 [(0, va_rf l0), (2, .int l2), (3, .int l3), (4, .int l4)] [] h := by
  intro n
  induction n with
  | zero => intro l0 l2 l3 l4 h hK; cases hK
  | succ n ih =>
    intro l0 l2 l3 l4 h hK
    replace hK : (mm_b2 (cV h l0 12 (F_X12_calls l0 h)) fun v35 h35 => if v35 ≤ l4 then (F_X12_ask_77 l2 h35) else ((gI h35 l0 12 43).bind fun v42 => if v42 ≤ 0 then (F_X12_ask_77 l2 h35) else (mm_b2 (cV h35 l0 12 (F_X12_mostAlike l0 l4 h35)) fun v51 h51 => if v51 < l3 then (F_X12_ask_71 (F_X12_ask_32 n) l0 l4 v51 l4 h51) else (F_X12_ask_71 (F_X12_ask_32 n) l0 l2 l3 l4 h51)))) = some (r, hz) := hK
    refine mm_iload C (pc := 32) 3 dX12_ask_32 rfl ?_
    refine mm_aload_n C (pc := 34) 0 dX12_ask_34 rfl ?_
    replace hK := mm_b2s hK; obtain ⟨v35, h35, e35, hK⟩ := hK
    obtain ⟨o35, e35⟩ := cV_some e35
    refine mm_callV C (pc := 35) (d1 := 1) (As := []) (st := [.int l4]) (vk := (some (.int v35))) ((S_X12_calls (by omega)) e35) tT_X12_calls o35 (Or.inr ⟨_, rfl, rfl⟩) wd_2295 wd_2297 wd_87 (by omega) (by decide) rfl (by simp [mm_crf, mm_cti, mm_ctl]) rfl dX12_ask_35 ?_
    show V _ _ (.int v35 :: _) _
    refine mm_icmp_ge C (pc := 38) (tgt := 77) dX12_ask_38 (by decide) (fun hc => ?_) (fun hc => ?_)
    · replace hK := mm_ip hc hK
      refine mm_sub C [1] rfl ?_
      exact w_X12_ask_77 hd C _ _ hK
    · replace hK := mm_in hc hK
      refine mm_aload_n C (pc := 41) 0 dX12_ask_41 rfl ?_
      replace hK := mm_bd hK; obtain ⟨v42, e42, hK⟩ := hK
      refine mm_geti C (pc := 42) (k := 43) inGX12 rfl (by decide) wd_2042 dX12_ask_42 e42 ?_
      refine mm_if_le C (pc := 45) (tgt := 77) dX12_ask_45 (by decide) (fun hc => ?_) (fun hc => ?_)
      · replace hK := mm_ip hc hK
        refine mm_sub C [1] rfl ?_
        exact w_X12_ask_77 hd C _ _ hK
      · replace hK := mm_in hc hK
        refine mm_aload_n C (pc := 48) 0 dX12_ask_48 rfl ?_
        refine mm_iload C (pc := 49) 3 dX12_ask_49 rfl ?_
        replace hK := mm_b2s hK; obtain ⟨v51, h51, e51, hK⟩ := hK
        obtain ⟨o51, e51⟩ := cV_some e51
        refine mm_callV C (pc := 51) (d1 := 2) (As := [.int l4]) (st := []) (vk := (some (.int v51))) ((S_X12_mostAlike (by omega)) e51) tT_X12_mostAlike o51 (Or.inr ⟨_, rfl, rfl⟩) wd_2701 wd_2703 wd_139 (by omega) (by decide) rfl (by simp [mm_crf, mm_cti, mm_ctl]) rfl dX12_ask_51 ?_
        show V _ _ (.int v51 :: _) _
        refine mm_istore C (pc := 54) (i := 5) (lv' := [(5, .int v51), (0, va_rf l0), (2, .int l2), (3, .int l3), (4, .int l4)]) dX12_ask_54 (by decide) rfl ?_
        refine mm_iload C (pc := 56) 0 dX12_ask_56 rfl ?_
        refine mm_iload_n C (pc := 58) 3 dX12_ask_58 rfl ?_
        refine mm_icmp_lt C (pc := 59) (tgt := 65) dX12_ask_59 (by decide) (fun hc => ?_) (fun hc => ?_)
        · replace hK := mm_ip hc hK
          refine mm_iload C (pc := 65) 4 dX12_ask_65 rfl ?_
          refine mm_istore_n C (pc := 67) (i := 2) (lv' := [(2, .int l4), (5, .int v51), (0, va_rf l0), (3, .int l3), (4, .int l4)]) dX12_ask_67 rfl (by decide) rfl ?_
          refine mm_iload C (pc := 68) 1 dX12_ask_68 rfl ?_
          refine mm_istore_n C (pc := 70) (i := 3) (lv' := [(3, .int v51), (2, .int l4), (5, .int v51), (0, va_rf l0), (4, .int l4)]) dX12_ask_70 rfl (by decide) rfl ?_
          refine mm_sub C [3, 1, 0, 4] rfl ?_
          exact w_X12_ask_71 hd C (fun z0 z1 z2 z3 z4 hK => ih z0 z1 z2 z3 z4 hK) _ _ _ _ _ hK
        · replace hK := mm_in hc hK
          refine mm_goto C (pc := 62) (tgt := 71) dX12_ask_62 (by decide) ?_
          refine mm_sub C [1, 2, 3, 4] rfl ?_
          exact w_X12_ask_71 hd C (fun z0 z1 z2 z3 z4 hK => ih z0 z1 z2 z3 z4 hK) _ _ _ _ _ hK
def F_X12_ask (a0 : Option Nat) (a1 : Int32) (h : MH) : Option (Int32 × MH) := mm_b2 (cV h a0 12 (F_X12_rulesFault a0 a1 h)) fun v3 h3 => (pI h3 a0 12 4 v3).bind fun h6 => (gI h6 a0 12 4).bind fun v10 => if v10 ≤ 0 then ((cV h6 a0 12 (F_X12_laysRules a0 a1 h6)).bind fun h20 => F_X12_ask_32 mm_N a0 ((-1) : Int32) (536870912 : Int32) (0 : Int32) h20) else (some ((0 : Int32), h6))
set_option maxRecDepth 20000 in
set_option maxHeartbeats 4000000 in
theorem S_X12_ask {d : Nat} (hd : 5 ≤ d) {a0 : Option Nat} {a1 : Int32} {h : MH} {r : Int32} {hz : MH} (hK : F_X12_ask a0 a1 h = some (r, hz)) : mm_M yX12_ask cX12_ask 6 (some .int) d [va_rf a0, .int a1] h (.inr (some (.int r))) hz := by
  refine mm_ofV (by decide +kernel) (by simp [lg_sl, mm_crf, mm_cti, mm_ctl]) (fun V C => ?_)
  rw [show lv_args 0 [va_rf a0, .int a1] = [(0, va_rf a0), (1, .int a1)] by simp [lv_args, mm_crf, mm_cti, mm_ctl]]
  unfold F_X12_ask at hK
  refine mm_aload_n C (pc := 0) 0 dX12_ask_0 rfl ?_
  refine mm_aload_n C (pc := 1) 0 dX12_ask_1 rfl ?_
  refine mm_iload_n C (pc := 2) 1 dX12_ask_2 rfl ?_
  replace hK := mm_b2s hK; obtain ⟨v3, h3, e3, hK⟩ := hK
  obtain ⟨o3, e3⟩ := cV_some e3
  refine mm_callV C (pc := 3) (d1 := 4) (As := [.int a1]) (st := [va_rf a0]) (vk := (some (.int v3))) ((S_X12_rulesFault (by omega)) e3) tT_X12_rulesFault o3 (Or.inr ⟨_, rfl, rfl⟩) wd_2680 wd_2682 wd_136 (by omega) (by decide) rfl (by simp [mm_crf, mm_cti, mm_ctl]) rfl dX12_ask_3 ?_
  show V _ _ (.int v3 :: _) _
  replace hK := mm_bd hK; obtain ⟨h6, e6, hK⟩ := hK
  refine mm_puti C (pc := 6) (k := 4) false (fun z => by cases z) inGX12 tyX12 tyX12_ok nmX12 rfl (by decide) wd_2003 rfl rfl dX12_ask_6 e6 ?_
  refine mm_aload_n C (pc := 9) 0 dX12_ask_9 rfl ?_
  replace hK := mm_bd hK; obtain ⟨v10, e10, hK⟩ := hK
  refine mm_geti C (pc := 10) (k := 4) inGX12 rfl (by decide) wd_2003 dX12_ask_10 e10 ?_
  refine mm_if_le C (pc := 13) (tgt := 18) dX12_ask_13 (by decide) (fun hc => ?_) (fun hc => ?_)
  · replace hK := mm_ip hc hK
    refine mm_aload_n C (pc := 18) 0 dX12_ask_18 rfl ?_
    refine mm_iload_n C (pc := 19) 1 dX12_ask_19 rfl ?_
    replace hK := mm_bd hK; obtain ⟨h20, e20, hK⟩ := hK
    obtain ⟨o20, e20⟩ := cV_some e20
    refine mm_callV C (pc := 20) (d1 := 2) (As := [.int a1]) (st := []) (vk := none) ((S_X12_laysRules (by omega)) e20) tT_X12_laysRules o20 (Or.inr ⟨_, rfl, rfl⟩) wd_2685 wd_2687 wd_137 (by omega) (by decide) rfl (by simp [mm_crf, mm_cti, mm_ctl]) rfl dX12_ask_20 ?_
    show V _ _ [] _
    refine mm_iconst C (pc := 23) (v := ((-1) : Int32)) dX12_ask_23 (by decide) ?_
    refine mm_istore_n C (pc := 24) (i := 2) (lv' := [(2, .int ((-1) : Int32)), (0, va_rf a0), (1, .int a1)]) dX12_ask_24 rfl (by decide) rfl ?_
    refine mm_ldcw C (pc := 25) (v := (536870912 : Int32)) dX12_ask_25 wd_2533 ?_
    refine mm_istore_n C (pc := 28) (i := 3) (lv' := [(3, .int (536870912 : Int32)), (2, .int ((-1) : Int32)), (0, va_rf a0), (1, .int a1)]) dX12_ask_28 rfl (by decide) rfl ?_
    refine mm_iconst C (pc := 29) (v := (0 : Int32)) dX12_ask_29 (by decide) ?_
    refine mm_istore C (pc := 30) (i := 4) (lv' := [(4, .int (0 : Int32)), (3, .int (536870912 : Int32)), (2, .int ((-1) : Int32)), (0, va_rf a0), (1, .int a1)]) dX12_ask_30 (by decide) rfl ?_
    refine mm_sub C [3, 2, 1, 0] rfl ?_
    exact w_X12_ask_32 hd C _ _ _ _ _ _ hK
  · replace hK := mm_in hc hK
    refine mm_iconst C (pc := 16) (v := (0 : Int32)) dX12_ask_16 (by decide) ?_
    cases hK
    exact mm_iret C (pc := 17) rfl dX12_ask_17 rfl rfl
def F_X12_tray_69 : Nat → Option Nat → Int32 → Int32 → MH → Option MH
  | 0 => fun _ _ _ _ => none
  | n + 1 => fun l0 l1 l4 h => if (30 : Int32) ≤ l4 then (some h) else ((gR h l0 12 47).bind fun v77 => (sL h v77 (((30 : Int32) * l1) + l4) (0 : Int64)).bind fun h88 => F_X12_tray_69 n l0 l1 (l4 + (1 : Int32)) h88)
set_option maxRecDepth 20000 in
set_option maxHeartbeats 4000000 in
theorem w_X12_tray_69 {d : Nat} {V : Nat → List (Nat × Value) → List Value → MH → Prop} {hz : MH} (hd : 3 ≤ d) (C : mm_C d yX12_tray cX12_tray 5 none (.inr none) hz V) : ∀ (n : Nat) (l0 : Option Nat) (l1 : Int32) (l4 : Int32) (h : MH), F_X12_tray_69 n l0 l1 l4 h = some hz → V 69 [(0, va_rf l0), (1, .int l1), (4, .int l4)] [] h := by
  intro n
  induction n with
  | zero => intro l0 l1 l4 h hK; cases hK
  | succ n ih =>
    intro l0 l1 l4 h hK
    replace hK : (if (30 : Int32) ≤ l4 then (some h) else ((gR h l0 12 47).bind fun v77 => (sL h v77 (((30 : Int32) * l1) + l4) (0 : Int64)).bind fun h88 => F_X12_tray_69 n l0 l1 (l4 + (1 : Int32)) h88)) = some hz := hK
    refine mm_iload C (pc := 69) 2 dX12_tray_69 rfl ?_
    refine mm_bipush C (pc := 71) (v := (30 : Int32)) dX12_tray_71 (by decide) ?_
    refine mm_icmp_ge C (pc := 73) (tgt := 95) dX12_tray_73 (by decide) (fun hc => ?_) (fun hc => ?_)
    · replace hK := mm_ip hc hK
      cases hK
      exact mm_vret C (pc := 95) rfl dX12_tray_95 rfl rfl
    · replace hK := mm_in hc hK
      refine mm_aload_n C (pc := 76) 0 dX12_tray_76 rfl ?_
      replace hK := mm_bd hK; obtain ⟨v77, e77, hK⟩ := hK
      refine mm_getr C (pc := 77) (k := 47) inGX12 rfl (by decide) wd_2046 dX12_tray_77 e77 ?_
      refine mm_bipush C (pc := 80) (v := (30 : Int32)) dX12_tray_80 (by decide) ?_
      refine mm_iload_n C (pc := 82) 1 dX12_tray_82 rfl ?_
      refine mm_imul C (pc := 83) dX12_tray_83 ?_
      refine mm_iload C (pc := 84) 2 dX12_tray_84 rfl ?_
      refine mm_iadd C (pc := 86) dX12_tray_86 ?_
      refine mm_lconst C (pc := 87) (v := (0 : Int64)) dX12_tray_87 (by decide) ?_
      replace hK := mm_bd hK; obtain ⟨h88, e88, hK⟩ := hK
      refine mm_last C (pc := 88) dX12_tray_88 e88 ?_
      refine mm_iinc C (pc := 89) (v := (l4 + (1 : Int32))) (lv' := [(4, .int (l4 + (1 : Int32))), (0, va_rf l0), (1, .int l1)]) 2 dX12_tray_89 rfl rfl (by decide) rfl ?_
      refine mm_goto C (pc := 92) (tgt := 69) dX12_tray_92 (by decide) ?_
      refine mm_sub C [1, 2, 0] rfl ?_
      exact ih _ _ _ _ hK
def F_X12_tray_41 (l0 : Option Nat) (l1 : Int32) (l2 : Int32) (l3 : Int32) (s0 : Int32) (s1 : Option Nat) (h : MH) : Option MH := (pI h s1 12 4 s0).bind fun h41 => (gI h41 l0 12 4).bind fun v45 => if v45 ≤ 0 then ((gR h41 l0 12 45).bind fun v53 => (sI h41 v53 0 l1 l2).bind fun h58 => (gR h58 l0 12 46).bind fun v60 => (sI h58 v60 0 l1 l3).bind fun h65 => F_X12_tray_69 mm_N l0 l1 (0 : Int32) h65) else (some h41)
set_option maxRecDepth 20000 in
set_option maxHeartbeats 4000000 in
theorem w_X12_tray_41 {d : Nat} {V : Nat → List (Nat × Value) → List Value → MH → Prop} {hz : MH} (hd : 3 ≤ d) (C : mm_C d yX12_tray cX12_tray 5 none (.inr none) hz V) (l0 : Option Nat) (l1 : Int32) (l2 : Int32) (l3 : Int32) (s0 : Int32) (s1 : Option Nat) (h : MH) (hK : F_X12_tray_41 l0 l1 l2 l3 s0 s1 h = some hz) : V 41 [(0, va_rf l0), (1, .int l1), (2, .int l2), (3, .int l3)] [.int s0, va_rf s1] h := by
  unfold F_X12_tray_41 at hK
  replace hK := mm_bd hK; obtain ⟨h41, e41, hK⟩ := hK
  refine mm_puti C (pc := 41) (k := 4) false (fun z => by cases z) inGX12 tyX12 tyX12_ok nmX12 rfl (by decide) wd_2003 rfl rfl dX12_tray_41 e41 ?_
  refine mm_aload_n C (pc := 44) 0 dX12_tray_44 rfl ?_
  replace hK := mm_bd hK; obtain ⟨v45, e45, hK⟩ := hK
  refine mm_geti C (pc := 45) (k := 4) inGX12 rfl (by decide) wd_2003 dX12_tray_45 e45 ?_
  refine mm_if_le C (pc := 48) (tgt := 52) dX12_tray_48 (by decide) (fun hc => ?_) (fun hc => ?_)
  · replace hK := mm_ip hc hK
    refine mm_aload_n C (pc := 52) 0 dX12_tray_52 rfl ?_
    replace hK := mm_bd hK; obtain ⟨v53, e53, hK⟩ := hK
    refine mm_getr C (pc := 53) (k := 45) inGX12 rfl (by decide) wd_2044 dX12_tray_53 e53 ?_
    refine mm_iload_n C (pc := 56) 1 dX12_tray_56 rfl ?_
    refine mm_iload_n C (pc := 57) 2 dX12_tray_57 rfl ?_
    replace hK := mm_bd hK; obtain ⟨h58, e58, hK⟩ := hK
    refine mm_iast C (pc := 58) dX12_tray_58 e58 ?_
    refine mm_aload_n C (pc := 59) 0 dX12_tray_59 rfl ?_
    replace hK := mm_bd hK; obtain ⟨v60, e60, hK⟩ := hK
    refine mm_getr C (pc := 60) (k := 46) inGX12 rfl (by decide) wd_2045 dX12_tray_60 e60 ?_
    refine mm_iload_n C (pc := 63) 1 dX12_tray_63 rfl ?_
    refine mm_iload_n C (pc := 64) 3 dX12_tray_64 rfl ?_
    replace hK := mm_bd hK; obtain ⟨h65, e65, hK⟩ := hK
    refine mm_iast C (pc := 65) dX12_tray_65 e65 ?_
    refine mm_iconst C (pc := 66) (v := (0 : Int32)) dX12_tray_66 (by decide) ?_
    refine mm_istore C (pc := 67) (i := 4) (lv' := [(4, .int (0 : Int32)), (0, va_rf l0), (1, .int l1), (2, .int l2), (3, .int l3)]) dX12_tray_67 (by decide) rfl ?_
    refine mm_sub C [1, 2, 0] rfl ?_
    exact w_X12_tray_69 hd C _ _ _ _ _ hK
  · replace hK := mm_in hc hK
    cases hK
    exact mm_vret C (pc := 51) rfl dX12_tray_51 rfl rfl
def F_X12_tray_36 (l0 : Option Nat) (l1 : Int32) (l2 : Int32) (l3 : Int32) (s0 : Option Nat) (h : MH) : Option MH := F_X12_tray_41 l0 l1 l2 l3 (2 : Int32) s0 h
set_option maxRecDepth 20000 in
set_option maxHeartbeats 4000000 in
theorem w_X12_tray_36 {d : Nat} {V : Nat → List (Nat × Value) → List Value → MH → Prop} {hz : MH} (hd : 3 ≤ d) (C : mm_C d yX12_tray cX12_tray 5 none (.inr none) hz V) (l0 : Option Nat) (l1 : Int32) (l2 : Int32) (l3 : Int32) (s0 : Option Nat) (h : MH) (hK : F_X12_tray_36 l0 l1 l2 l3 s0 h = some hz) : V 36 [(0, va_rf l0), (1, .int l1), (2, .int l2), (3, .int l3)] [va_rf s0] h := by
  unfold F_X12_tray_36 at hK
  refine mm_iconst C (pc := 36) (v := (2 : Int32)) dX12_tray_36 (by decide) ?_
  refine mm_goto C (pc := 37) (tgt := 41) dX12_tray_37 (by decide) ?_
  exact w_X12_tray_41 hd C _ _ _ _ _ _ _ hK
def F_X12_tray (a0 : Option Nat) (a1 : Int32) (a2 : Int32) (a3 : Int32) (h : MH) : Option MH := mm_b2 (F_X12_isTray a1 h) fun v2 h2 => if v2 = 0 then (F_X12_tray_41 a0 a1 a2 a3 (1 : Int32) a0 h2) else (mm_b2 (F_X12_within (a2.toInt64) (0 : Int64) (3 : Int64) h2) fun v18 h18 => if v18 = 0 then (F_X12_tray_36 a0 a1 a2 a3 a0 h18) else (mm_b2 (F_X12_within (a3.toInt64) (0 : Int64) (30 : Int64) h18) fun v30 h30 => if v30 = 0 then (F_X12_tray_36 a0 a1 a2 a3 a0 h30) else (F_X12_tray_41 a0 a1 a2 a3 (0 : Int32) a0 h30)))
set_option maxRecDepth 20000 in
set_option maxHeartbeats 4000000 in
theorem S_X12_tray {d : Nat} (hd : 3 ≤ d) {a0 : Option Nat} {a1 : Int32} {a2 : Int32} {a3 : Int32} {h : MH} {hz : MH} (hK : F_X12_tray a0 a1 a2 a3 h = some hz) : mm_M yX12_tray cX12_tray 5 none d [va_rf a0, .int a1, .int a2, .int a3] h (.inr none) hz := by
  refine mm_ofV (by decide +kernel) (by simp [lg_sl, mm_crf, mm_cti, mm_ctl]) (fun V C => ?_)
  rw [show lv_args 0 [va_rf a0, .int a1, .int a2, .int a3] = [(0, va_rf a0), (1, .int a1), (2, .int a2), (3, .int a3)] by simp [lv_args, mm_crf, mm_cti, mm_ctl]]
  unfold F_X12_tray at hK
  refine mm_aload_n C (pc := 0) 0 dX12_tray_0 rfl ?_
  refine mm_iload_n C (pc := 1) 1 dX12_tray_1 rfl ?_
  replace hK := mm_b2s hK; obtain ⟨v2, h2, e2, hK⟩ := hK
  refine mm_callS C (pc := 2) (d1 := 2) (As := [.int a1]) (st := [va_rf a0]) (vk := (some (.int v2))) ((S_X12_isTray (by omega)) e2) tT_X12_isTray wd_2440 wd_2441 (by omega) (by decide) rfl (by simp [mm_crf, mm_cti, mm_ctl]) rfl dX12_tray_2 ?_
  show V _ _ (.int v2 :: _) _
  refine mm_if_ne C (pc := 5) (tgt := 12) dX12_tray_5 (by decide) (fun hc => ?_) (fun hc => ?_)
  · replace hK := mm_in hc hK
    refine mm_iload_n C (pc := 12) 2 dX12_tray_12 rfl ?_
    refine mm_i2l C (pc := 13) dX12_tray_13 ?_
    refine mm_lconst C (pc := 14) (v := (0 : Int64)) dX12_tray_14 (by decide) ?_
    refine mm_ldc2 C (pc := 15) (v := (3 : Int64)) dX12_tray_15 wd_2443 ?_
    replace hK := mm_b2s hK; obtain ⟨v18, h18, e18, hK⟩ := hK
    refine mm_callS C (pc := 18) (d1 := 1) (As := [.long (a2.toInt64), .long (0 : Int64), .long (3 : Int64)]) (st := [va_rf a0]) (vk := (some (.int v18))) ((S_X12_within (by omega)) e18) tT_X12_within wd_2157 wd_2158 (by omega) (by decide) rfl (by simp [mm_crf, mm_cti, mm_ctl]) rfl dX12_tray_18 ?_
    show V _ _ (.int v18 :: _) _
    refine mm_if_eq C (pc := 21) (tgt := 36) dX12_tray_21 (by decide) (fun hc => ?_) (fun hc => ?_)
    · replace hK := mm_ip hc hK
      exact w_X12_tray_36 hd C _ _ _ _ _ _ hK
    · replace hK := mm_in hc hK
      refine mm_iload_n C (pc := 24) 3 dX12_tray_24 rfl ?_
      refine mm_i2l C (pc := 25) dX12_tray_25 ?_
      refine mm_lconst C (pc := 26) (v := (0 : Int64)) dX12_tray_26 (by decide) ?_
      refine mm_ldc2 C (pc := 27) (v := (30 : Int64)) dX12_tray_27 wd_2481 ?_
      replace hK := mm_b2s hK; obtain ⟨v30, h30, e30, hK⟩ := hK
      refine mm_callS C (pc := 30) (d1 := 1) (As := [.long (a3.toInt64), .long (0 : Int64), .long (30 : Int64)]) (st := [va_rf a0]) (vk := (some (.int v30))) ((S_X12_within (by omega)) e30) tT_X12_within wd_2157 wd_2158 (by omega) (by decide) rfl (by simp [mm_crf, mm_cti, mm_ctl]) rfl dX12_tray_30 ?_
      show V _ _ (.int v30 :: _) _
      refine mm_if_ne C (pc := 33) (tgt := 40) dX12_tray_33 (by decide) (fun hc => ?_) (fun hc => ?_)
      · replace hK := mm_in hc hK
        refine mm_iconst C (pc := 40) (v := (0 : Int32)) dX12_tray_40 (by decide) ?_
        exact w_X12_tray_41 hd C _ _ _ _ _ _ _ hK
      · replace hK := mm_ip hc hK
        exact w_X12_tray_36 hd C _ _ _ _ _ _ hK
  · replace hK := mm_ip hc hK
    refine mm_iconst C (pc := 8) (v := (1 : Int32)) dX12_tray_8 (by decide) ?_
    refine mm_goto C (pc := 9) (tgt := 41) dX12_tray_9 (by decide) ?_
    exact w_X12_tray_41 hd C _ _ _ _ _ _ _ hK
def F_X12_cut (a0 : Option Nat) (a1 : Int32) (a2 : Int32) (a3 : Int64) (h : MH) : Option (Int64 × MH) := (gR h a0 12 45).bind fun v5 => (aI h v5 0 a1).bind fun v9 => (gR h a0 12 47).bind fun v15 => (sL h v15 (((30 : Int32) * a1) + a2) ((a3 <<< (((64 : Int32) - ((8 : Int32) <<< (v9 &&& 31))).toInt64 &&& 63)) >>> (((64 : Int32) - ((8 : Int32) <<< (v9 &&& 31))).toInt64 &&& 63))).bind fun h31 => (gR h31 a0 12 47).bind fun v33 => (aL h31 v33 (((30 : Int32) * a1) + a2)).bind fun v42 => some (v42, h31)
set_option maxRecDepth 20000 in
set_option maxHeartbeats 4000000 in
theorem S_X12_cut {d : Nat} (hd : 1 ≤ d) {a0 : Option Nat} {a1 : Int32} {a2 : Int32} {a3 : Int64} {h : MH} {r : Int64} {hz : MH} (hK : F_X12_cut a0 a1 a2 a3 h = some (r, hz)) : mm_M yX12_cut cX12_cut 6 (some .long) d [va_rf a0, .int a1, .int a2, .long a3] h (.inr (some (.long r))) hz := by
  refine mm_ofV (by decide +kernel) (by simp [lg_sl, mm_crf, mm_cti, mm_ctl]) (fun V C => ?_)
  rw [show lv_args 0 [va_rf a0, .int a1, .int a2, .long a3] = [(0, va_rf a0), (1, .int a1), (2, .int a2), (3, .long a3)] by simp [lv_args, mm_crf, mm_cti, mm_ctl]]
  unfold F_X12_cut at hK
  refine mm_bipush C (pc := 0) (v := (64 : Int32)) dX12_cut_0 (by decide) ?_
  refine mm_bipush C (pc := 2) (v := (8 : Int32)) dX12_cut_2 (by decide) ?_
  refine mm_aload_n C (pc := 4) 0 dX12_cut_4 rfl ?_
  replace hK := mm_bd hK; obtain ⟨v5, e5, hK⟩ := hK
  refine mm_getr C (pc := 5) (k := 45) inGX12 rfl (by decide) wd_2044 dX12_cut_5 e5 ?_
  refine mm_iload_n C (pc := 8) 1 dX12_cut_8 rfl ?_
  replace hK := mm_bd hK; obtain ⟨v9, e9, hK⟩ := hK
  refine mm_iald C (pc := 9) dX12_cut_9 e9 ?_
  refine mm_ishl C (pc := 10) dX12_cut_10 ?_
  refine mm_isub C (pc := 11) dX12_cut_11 ?_
  refine mm_istore C (pc := 12) (i := 5) (lv' := [(5, .int ((64 : Int32) - ((8 : Int32) <<< (v9 &&& 31)))), (0, va_rf a0), (1, .int a1), (2, .int a2), (3, .long a3)]) dX12_cut_12 (by decide) rfl ?_
  refine mm_aload_n C (pc := 14) 1 dX12_cut_14 rfl ?_
  replace hK := mm_bd hK; obtain ⟨v15, e15, hK⟩ := hK
  refine mm_getr C (pc := 15) (k := 47) inGX12 rfl (by decide) wd_2046 dX12_cut_15 e15 ?_
  refine mm_bipush C (pc := 18) (v := (30 : Int32)) dX12_cut_18 (by decide) ?_
  refine mm_iload_n C (pc := 20) 2 dX12_cut_20 rfl ?_
  refine mm_imul C (pc := 21) dX12_cut_21 ?_
  refine mm_iload_n C (pc := 22) 3 dX12_cut_22 rfl ?_
  refine mm_iadd C (pc := 23) dX12_cut_23 ?_
  refine mm_lload_n C (pc := 24) 4 dX12_cut_24 rfl ?_
  refine mm_iload C (pc := 25) 0 dX12_cut_25 rfl ?_
  refine mm_lshl C (pc := 27) dX12_cut_27 ?_
  refine mm_iload C (pc := 28) 0 dX12_cut_28 rfl ?_
  refine mm_lshr C (pc := 30) dX12_cut_30 ?_
  replace hK := mm_bd hK; obtain ⟨h31, e31, hK⟩ := hK
  refine mm_last C (pc := 31) dX12_cut_31 e31 ?_
  refine mm_aload_n C (pc := 32) 1 dX12_cut_32 rfl ?_
  replace hK := mm_bd hK; obtain ⟨v33, e33, hK⟩ := hK
  refine mm_getr C (pc := 33) (k := 47) inGX12 rfl (by decide) wd_2046 dX12_cut_33 e33 ?_
  refine mm_bipush C (pc := 36) (v := (30 : Int32)) dX12_cut_36 (by decide) ?_
  refine mm_iload_n C (pc := 38) 2 dX12_cut_38 rfl ?_
  refine mm_imul C (pc := 39) dX12_cut_39 ?_
  refine mm_iload_n C (pc := 40) 3 dX12_cut_40 rfl ?_
  refine mm_iadd C (pc := 41) dX12_cut_41 ?_
  replace hK := mm_bd hK; obtain ⟨v42, e42, hK⟩ := hK
  refine mm_lald C (pc := 42) dX12_cut_42 e42 ?_
  cases hK
  exact mm_lret C (pc := 43) rfl dX12_cut_43 rfl rfl
theorem wd_2717 : Cond.code yX12_cut cX12_cut 6 (some .long) ∈ lw_good := mm_wd 2717 (by decide +kernel) (by decide +kernel)
theorem tT_X12_cut : mm_T yX12_cut cX12_cut 6 (some .long) 3 := ⟨wd_2717, wd_170, by decide +kernel, by decide +kernel, by decide +kernel, by decide +kernel⟩
theorem wd_2714 : Cond.methodLink RX12 552 yX12_cut ∈ lw_good := mm_wd 2714 (by decide +kernel) (by decide +kernel)
theorem wd_2716 : Cond.instanceMethod yX12_cut ∈ lw_good := mm_wd 2716 (by decide +kernel) (by decide +kernel)
theorem wd_140 : Cond.selects RX12 yX12_cut yX12_cut ∈ lw_good := mm_wd 140 (by decide +kernel) (by decide +kernel)
def F_X12_write_52 (s0 : Int64) (h : MH) : Option (Int64 × MH) := some (s0, h)
set_option maxRecDepth 20000 in
set_option maxHeartbeats 4000000 in
theorem w_X12_write_52 {d : Nat} {V : Nat → List (Nat × Value) → List Value → MH → Prop} {r : Int64} {hz : MH} (hd : 4 ≤ d) (C : mm_C d yX12_write cX12_write 5 (some .long) (.inr (some (.long r))) hz V) (s0 : Int64) (h : MH) (hK : F_X12_write_52 s0 h = some (r, hz)) : V 52 [] [.long s0] h := by
  unfold F_X12_write_52 at hK
  cases hK
  exact mm_lret C (pc := 52) rfl dX12_write_52 rfl rfl
def F_X12_write (a0 : Option Nat) (a1 : Int32) (a2 : Int32) (a3 : Int64) (h : MH) : Option (Int64 × MH) := mm_b2 (cV h a0 12 (F_X12_trayFault a0 a1 h)) fun v3 h3 => (pI h3 a0 12 4 v3).bind fun h6 => (gI h6 a0 12 4).bind fun v10 => if v10 ≤ 0 then ((gR h6 a0 12 46).bind fun v22 => (aI h6 v22 0 a1).bind fun v26 => mm_b2 (F_X12_within (a2.toInt64) (0 : Int64) ((v26 - (1 : Int32)).toInt64) h6) fun v30 h30 => if v30 = 0 then (mm_b2 (cV h30 a0 12 (F_X12_fails a0 (3 : Int32) h30)) fun v48 h48 => F_X12_write_52 (v48.toInt64) h48) else (mm_b2 (cV h30 a0 12 (F_X12_cut a0 a1 a2 a3 h30)) fun v40 h40 => F_X12_write_52 v40 h40)) else (some ((0 : Int64), h6))
set_option maxRecDepth 20000 in
set_option maxHeartbeats 4000000 in
theorem S_X12_write {d : Nat} (hd : 4 ≤ d) {a0 : Option Nat} {a1 : Int32} {a2 : Int32} {a3 : Int64} {h : MH} {r : Int64} {hz : MH} (hK : F_X12_write a0 a1 a2 a3 h = some (r, hz)) : mm_M yX12_write cX12_write 5 (some .long) d [va_rf a0, .int a1, .int a2, .long a3] h (.inr (some (.long r))) hz := by
  refine mm_ofV (by decide +kernel) (by simp [lg_sl, mm_crf, mm_cti, mm_ctl]) (fun V C => ?_)
  rw [show lv_args 0 [va_rf a0, .int a1, .int a2, .long a3] = [(0, va_rf a0), (1, .int a1), (2, .int a2), (3, .long a3)] by simp [lv_args, mm_crf, mm_cti, mm_ctl]]
  unfold F_X12_write at hK
  refine mm_aload_n C (pc := 0) 0 dX12_write_0 rfl ?_
  refine mm_aload_n C (pc := 1) 0 dX12_write_1 rfl ?_
  refine mm_iload_n C (pc := 2) 1 dX12_write_2 rfl ?_
  replace hK := mm_b2s hK; obtain ⟨v3, h3, e3, hK⟩ := hK
  obtain ⟨o3, e3⟩ := cV_some e3
  refine mm_callV C (pc := 3) (d1 := 3) (As := [.int a1]) (st := [va_rf a0]) (vk := (some (.int v3))) ((S_X12_trayFault (by omega)) e3) tT_X12_trayFault o3 (Or.inr ⟨_, rfl, rfl⟩) wd_2436 wd_2438 wd_104 (by omega) (by decide) rfl (by simp [mm_crf, mm_cti, mm_ctl]) rfl dX12_write_3 ?_
  show V _ _ (.int v3 :: _) _
  replace hK := mm_bd hK; obtain ⟨h6, e6, hK⟩ := hK
  refine mm_puti C (pc := 6) (k := 4) false (fun z => by cases z) inGX12 tyX12 tyX12_ok nmX12 rfl (by decide) wd_2003 rfl rfl dX12_write_6 e6 ?_
  refine mm_aload_n C (pc := 9) 0 dX12_write_9 rfl ?_
  replace hK := mm_bd hK; obtain ⟨v10, e10, hK⟩ := hK
  refine mm_geti C (pc := 10) (k := 4) inGX12 rfl (by decide) wd_2003 dX12_write_10 e10 ?_
  refine mm_if_le C (pc := 13) (tgt := 18) dX12_write_13 (by decide) (fun hc => ?_) (fun hc => ?_)
  · replace hK := mm_ip hc hK
    refine mm_iload_n C (pc := 18) 2 dX12_write_18 rfl ?_
    refine mm_i2l C (pc := 19) dX12_write_19 ?_
    refine mm_lconst C (pc := 20) (v := (0 : Int64)) dX12_write_20 (by decide) ?_
    refine mm_aload_n C (pc := 21) 0 dX12_write_21 rfl ?_
    replace hK := mm_bd hK; obtain ⟨v22, e22, hK⟩ := hK
    refine mm_getr C (pc := 22) (k := 46) inGX12 rfl (by decide) wd_2045 dX12_write_22 e22 ?_
    refine mm_iload_n C (pc := 25) 1 dX12_write_25 rfl ?_
    replace hK := mm_bd hK; obtain ⟨v26, e26, hK⟩ := hK
    refine mm_iald C (pc := 26) dX12_write_26 e26 ?_
    refine mm_iconst C (pc := 27) (v := (1 : Int32)) dX12_write_27 (by decide) ?_
    refine mm_isub C (pc := 28) dX12_write_28 ?_
    refine mm_i2l C (pc := 29) dX12_write_29 ?_
    replace hK := mm_b2s hK; obtain ⟨v30, h30, e30, hK⟩ := hK
    refine mm_callS C (pc := 30) (d1 := 1) (As := [.long (a2.toInt64), .long (0 : Int64), .long ((v26 - (1 : Int32)).toInt64)]) (st := []) (vk := (some (.int v30))) ((S_X12_within (by omega)) e30) tT_X12_within wd_2157 wd_2158 (by omega) (by decide) rfl (by simp [mm_crf, mm_cti, mm_ctl]) rfl dX12_write_30 ?_
    show V _ _ (.int v30 :: _) _
    refine mm_if_eq C (pc := 33) (tgt := 46) dX12_write_33 (by decide) (fun hc => ?_) (fun hc => ?_)
    · replace hK := mm_ip hc hK
      refine mm_aload_n C (pc := 46) 0 dX12_write_46 rfl ?_
      refine mm_iconst C (pc := 47) (v := (3 : Int32)) dX12_write_47 (by decide) ?_
      replace hK := mm_b2s hK; obtain ⟨v48, h48, e48, hK⟩ := hK
      obtain ⟨o48, e48⟩ := cV_some e48
      refine mm_callV C (pc := 48) (d1 := 1) (As := [.int (3 : Int32)]) (st := []) (vk := (some (.int v48))) ((S_X12_fails (by omega)) e48) tT_X12_fails o48 (Or.inr ⟨_, rfl, rfl⟩) wd_2160 wd_2162 wd_61 (by omega) (by decide) rfl (by simp [mm_crf, mm_cti, mm_ctl]) rfl dX12_write_48 ?_
      show V _ _ (.int v48 :: _) _
      refine mm_i2l C (pc := 51) dX12_write_51 ?_
      refine mm_sub C [] rfl ?_
      exact w_X12_write_52 hd C _ _ hK
    · replace hK := mm_in hc hK
      refine mm_aload_n C (pc := 36) 0 dX12_write_36 rfl ?_
      refine mm_iload_n C (pc := 37) 1 dX12_write_37 rfl ?_
      refine mm_iload_n C (pc := 38) 2 dX12_write_38 rfl ?_
      refine mm_lload_n C (pc := 39) 3 dX12_write_39 rfl ?_
      replace hK := mm_b2s hK; obtain ⟨v40, h40, e40, hK⟩ := hK
      obtain ⟨o40, e40⟩ := cV_some e40
      refine mm_callV C (pc := 40) (d1 := 1) (As := [.int a1, .int a2, .long a3]) (st := []) (vk := (some (.long v40))) ((S_X12_cut (by omega)) e40) tT_X12_cut o40 (Or.inr ⟨_, rfl, rfl⟩) wd_2714 wd_2716 wd_140 (by omega) (by decide) rfl (by simp [mm_crf, mm_cti, mm_ctl]) rfl dX12_write_40 ?_
      show V _ _ (.long v40 :: _) _
      refine mm_goto C (pc := 43) (tgt := 52) dX12_write_43 (by decide) ?_
      refine mm_sub C [] rfl ?_
      exact w_X12_write_52 hd C _ _ hK
  · replace hK := mm_in hc hK
    refine mm_lconst C (pc := 16) (v := (0 : Int64)) dX12_write_16 (by decide) ?_
    cases hK
    exact mm_lret C (pc := 17) rfl dX12_write_17 rfl rfl
def F_X12_copy_24 : Nat → Option Nat → Int32 → Int32 → MH → Option (Int32 × MH)
  | 0 => fun _ _ _ _ => none
  | n + 1 => fun l0 l1 l2 h => (gR h l0 12 46).bind fun v26 => (aI h v26 0 l1).bind fun v30 => if v30 ≤ l2 then ((cV h l0 12 (F_X12_putsBack l0 h)).bind fun h58 => (gR h58 l0 12 46).bind fun v62 => (aI h58 v62 0 l1).bind fun v66 => some (v66, h58)) else ((cV h l0 12 (F_X12_minute l0 h)).bind fun h35 => mm_b2 (cV h35 l0 12 (F_X12_callsThat l0 (1 : Int32) h35)) fun v43 h43 => mm_b2 (cV h43 l0 12 (F_X12_cut l0 l1 l2 (v43.toInt64) h43)) fun v47 h47 => F_X12_copy_24 n l0 l1 (l2 + (1 : Int32)) h47)
set_option maxRecDepth 20000 in
set_option maxHeartbeats 4000000 in
theorem w_X12_copy_24 {d : Nat} {V : Nat → List (Nat × Value) → List Value → MH → Prop} {r : Int32} {hz : MH} (hd : 8 ≤ d) (C : mm_C d yX12_copy cX12_copy 3 (some .int) (.inr (some (.int r))) hz V) : ∀ (n : Nat) (l0 : Option Nat) (l1 : Int32) (l2 : Int32) (h : MH), F_X12_copy_24 n l0 l1 l2 h = some (r, hz) → V 24 [(0, va_rf l0), (1, .int l1), (2, .int l2)] [] h := by
  intro n
  induction n with
  | zero => intro l0 l1 l2 h hK; cases hK
  | succ n ih =>
    intro l0 l1 l2 h hK
    replace hK : ((gR h l0 12 46).bind fun v26 => (aI h v26 0 l1).bind fun v30 => if v30 ≤ l2 then ((cV h l0 12 (F_X12_putsBack l0 h)).bind fun h58 => (gR h58 l0 12 46).bind fun v62 => (aI h58 v62 0 l1).bind fun v66 => some (v66, h58)) else ((cV h l0 12 (F_X12_minute l0 h)).bind fun h35 => mm_b2 (cV h35 l0 12 (F_X12_callsThat l0 (1 : Int32) h35)) fun v43 h43 => mm_b2 (cV h43 l0 12 (F_X12_cut l0 l1 l2 (v43.toInt64) h43)) fun v47 h47 => F_X12_copy_24 n l0 l1 (l2 + (1 : Int32)) h47)) = some (r, hz) := hK
    refine mm_iload_n C (pc := 24) 2 dX12_copy_24 rfl ?_
    refine mm_aload_n C (pc := 25) 0 dX12_copy_25 rfl ?_
    replace hK := mm_bd hK; obtain ⟨v26, e26, hK⟩ := hK
    refine mm_getr C (pc := 26) (k := 46) inGX12 rfl (by decide) wd_2045 dX12_copy_26 e26 ?_
    refine mm_iload_n C (pc := 29) 1 dX12_copy_29 rfl ?_
    replace hK := mm_bd hK; obtain ⟨v30, e30, hK⟩ := hK
    refine mm_iald C (pc := 30) dX12_copy_30 e30 ?_
    refine mm_icmp_ge C (pc := 31) (tgt := 57) dX12_copy_31 (by decide) (fun hc => ?_) (fun hc => ?_)
    · replace hK := mm_ip hc hK
      refine mm_aload_n C (pc := 57) 0 dX12_copy_57 rfl ?_
      replace hK := mm_bd hK; obtain ⟨h58, e58, hK⟩ := hK
      obtain ⟨o58, e58⟩ := cV_some e58
      refine mm_callV C (pc := 58) (d1 := 1) (As := []) (st := []) (vk := none) ((S_X12_putsBack (by omega)) e58) tT_X12_putsBack o58 (Or.inr ⟨_, rfl, rfl⟩) wd_2469 wd_2471 wd_110 (by omega) (by decide) rfl (by simp [mm_crf, mm_cti, mm_ctl]) rfl dX12_copy_58 ?_
      show V _ _ [] _
      refine mm_aload_n C (pc := 61) 0 dX12_copy_61 rfl ?_
      replace hK := mm_bd hK; obtain ⟨v62, e62, hK⟩ := hK
      refine mm_getr C (pc := 62) (k := 46) inGX12 rfl (by decide) wd_2045 dX12_copy_62 e62 ?_
      refine mm_iload_n C (pc := 65) 1 dX12_copy_65 rfl ?_
      replace hK := mm_bd hK; obtain ⟨v66, e66, hK⟩ := hK
      refine mm_iald C (pc := 66) dX12_copy_66 e66 ?_
      cases hK
      exact mm_iret C (pc := 67) rfl dX12_copy_67 rfl rfl
    · replace hK := mm_in hc hK
      refine mm_aload_n C (pc := 34) 0 dX12_copy_34 rfl ?_
      replace hK := mm_bd hK; obtain ⟨h35, e35, hK⟩ := hK
      obtain ⟨o35, e35⟩ := cV_some e35
      refine mm_callV C (pc := 35) (d1 := 7) (As := []) (st := []) (vk := none) ((S_X12_minute (by omega)) e35) tT_X12_minute o35 (Or.inr ⟨_, rfl, rfl⟩) wd_2408 wd_2410 wd_100 (by omega) (by decide) rfl (by simp [mm_crf, mm_cti, mm_ctl]) rfl dX12_copy_35 ?_
      show V _ _ [] _
      refine mm_aload_n C (pc := 38) 0 dX12_copy_38 rfl ?_
      refine mm_iload_n C (pc := 39) 1 dX12_copy_39 rfl ?_
      refine mm_iload_n C (pc := 40) 2 dX12_copy_40 rfl ?_
      refine mm_aload_n C (pc := 41) 0 dX12_copy_41 rfl ?_
      refine mm_iconst C (pc := 42) (v := (1 : Int32)) dX12_copy_42 (by decide) ?_
      replace hK := mm_b2s hK; obtain ⟨v43, h43, e43, hK⟩ := hK
      obtain ⟨o43, e43⟩ := cV_some e43
      refine mm_callV C (pc := 43) (d1 := 2) (As := [.int (1 : Int32)]) (st := [.int l2, .int l1, va_rf l0]) (vk := (some (.int v43))) ((S_X12_callsThat (by omega)) e43) tT_X12_callsThat o43 (Or.inr ⟨_, rfl, rfl⟩) wd_2461 wd_2463 wd_108 (by omega) (by decide) rfl (by simp [mm_crf, mm_cti, mm_ctl]) rfl dX12_copy_43 ?_
      show V _ _ (.int v43 :: _) _
      refine mm_i2l C (pc := 46) dX12_copy_46 ?_
      replace hK := mm_b2s hK; obtain ⟨v47, h47, e47, hK⟩ := hK
      obtain ⟨o47, e47⟩ := cV_some e47
      refine mm_callV C (pc := 47) (d1 := 1) (As := [.int l1, .int l2, .long (v43.toInt64)]) (st := []) (vk := (some (.long v47))) ((S_X12_cut (by omega)) e47) tT_X12_cut o47 (Or.inr ⟨_, rfl, rfl⟩) wd_2714 wd_2716 wd_140 (by omega) (by decide) rfl (by simp [mm_crf, mm_cti, mm_ctl]) rfl dX12_copy_47 ?_
      show V _ _ (.long v47 :: _) _
      refine mm_pop2 C (pc := 50) dX12_copy_50 rfl ?_
      refine mm_iinc C (pc := 51) (v := (l2 + (1 : Int32))) (lv' := [(2, .int (l2 + (1 : Int32))), (0, va_rf l0), (1, .int l1)]) 2 dX12_copy_51 rfl rfl (by decide) rfl ?_
      refine mm_goto C (pc := 54) (tgt := 24) dX12_copy_54 (by decide) ?_
      refine mm_sub C [1, 2, 0] rfl ?_
      exact ih _ _ _ _ hK
def F_X12_copy (a0 : Option Nat) (a1 : Int32) (h : MH) : Option (Int32 × MH) := mm_b2 (cV h a0 12 (F_X12_trayFault a0 a1 h)) fun v3 h3 => (pI h3 a0 12 4 v3).bind fun h6 => (gI h6 a0 12 4).bind fun v10 => if v10 ≤ 0 then ((cV h6 a0 12 (F_X12_putsAside a0 h6)).bind fun h19 => F_X12_copy_24 mm_N a0 a1 (0 : Int32) h19) else (some ((0 : Int32), h6))
set_option maxRecDepth 20000 in
set_option maxHeartbeats 4000000 in
theorem S_X12_copy {d : Nat} (hd : 8 ≤ d) {a0 : Option Nat} {a1 : Int32} {h : MH} {r : Int32} {hz : MH} (hK : F_X12_copy a0 a1 h = some (r, hz)) : mm_M yX12_copy cX12_copy 3 (some .int) d [va_rf a0, .int a1] h (.inr (some (.int r))) hz := by
  refine mm_ofV (by decide +kernel) (by simp [lg_sl, mm_crf, mm_cti, mm_ctl]) (fun V C => ?_)
  rw [show lv_args 0 [va_rf a0, .int a1] = [(0, va_rf a0), (1, .int a1)] by simp [lv_args, mm_crf, mm_cti, mm_ctl]]
  unfold F_X12_copy at hK
  refine mm_aload_n C (pc := 0) 0 dX12_copy_0 rfl ?_
  refine mm_aload_n C (pc := 1) 0 dX12_copy_1 rfl ?_
  refine mm_iload_n C (pc := 2) 1 dX12_copy_2 rfl ?_
  replace hK := mm_b2s hK; obtain ⟨v3, h3, e3, hK⟩ := hK
  obtain ⟨o3, e3⟩ := cV_some e3
  refine mm_callV C (pc := 3) (d1 := 3) (As := [.int a1]) (st := [va_rf a0]) (vk := (some (.int v3))) ((S_X12_trayFault (by omega)) e3) tT_X12_trayFault o3 (Or.inr ⟨_, rfl, rfl⟩) wd_2436 wd_2438 wd_104 (by omega) (by decide) rfl (by simp [mm_crf, mm_cti, mm_ctl]) rfl dX12_copy_3 ?_
  show V _ _ (.int v3 :: _) _
  replace hK := mm_bd hK; obtain ⟨h6, e6, hK⟩ := hK
  refine mm_puti C (pc := 6) (k := 4) false (fun z => by cases z) inGX12 tyX12 tyX12_ok nmX12 rfl (by decide) wd_2003 rfl rfl dX12_copy_6 e6 ?_
  refine mm_aload_n C (pc := 9) 0 dX12_copy_9 rfl ?_
  replace hK := mm_bd hK; obtain ⟨v10, e10, hK⟩ := hK
  refine mm_geti C (pc := 10) (k := 4) inGX12 rfl (by decide) wd_2003 dX12_copy_10 e10 ?_
  refine mm_if_le C (pc := 13) (tgt := 18) dX12_copy_13 (by decide) (fun hc => ?_) (fun hc => ?_)
  · replace hK := mm_ip hc hK
    refine mm_aload_n C (pc := 18) 0 dX12_copy_18 rfl ?_
    replace hK := mm_bd hK; obtain ⟨h19, e19, hK⟩ := hK
    obtain ⟨o19, e19⟩ := cV_some e19
    refine mm_callV C (pc := 19) (d1 := 1) (As := []) (st := []) (vk := none) ((S_X12_putsAside (by omega)) e19) tT_X12_putsAside o19 (Or.inr ⟨_, rfl, rfl⟩) wd_2444 wd_2446 wd_105 (by omega) (by decide) rfl (by simp [mm_crf, mm_cti, mm_ctl]) rfl dX12_copy_19 ?_
    show V _ _ [] _
    refine mm_iconst C (pc := 22) (v := (0 : Int32)) dX12_copy_22 (by decide) ?_
    refine mm_istore_n C (pc := 23) (i := 2) (lv' := [(2, .int (0 : Int32)), (0, va_rf a0), (1, .int a1)]) dX12_copy_23 rfl (by decide) rfl ?_
    refine mm_sub C [1, 2, 0] rfl ?_
    exact w_X12_copy_24 hd C _ _ _ _ _ hK
  · replace hK := mm_in hc hK
    refine mm_iconst C (pc := 16) (v := (0 : Int32)) dX12_copy_16 (by decide) ?_
    cases hK
    exact mm_iret C (pc := 17) rfl dX12_copy_17 rfl rfl
def F_X12_image_38 : Nat → Option Nat → Int32 → Int32 → MH → Option MH
  | 0 => fun _ _ _ _ => none
  | n + 1 => fun l0 l1 l2 h => if (3205 : Int32) ≤ l2 then (some h) else ((gR h l0 12 2).bind fun v46 => (gR h l0 12 0).bind fun v57 => (aI h v57 0 l2).bind fun v61 => (sI h v46 0 (((3205 : Int32) * l1) + l2) v61).bind fun h62 => F_X12_image_38 n l0 l1 (l2 + (1 : Int32)) h62)
set_option maxRecDepth 20000 in
set_option maxHeartbeats 4000000 in
theorem w_X12_image_38 {d : Nat} {V : Nat → List (Nat × Value) → List Value → MH → Prop} {hz : MH} (hd : 2 ≤ d) (C : mm_C d yX12_image cX12_image 3 none (.inr none) hz V) : ∀ (n : Nat) (l0 : Option Nat) (l1 : Int32) (l2 : Int32) (h : MH), F_X12_image_38 n l0 l1 l2 h = some hz → V 38 [(0, va_rf l0), (1, .int l1), (2, .int l2)] [] h := by
  intro n
  induction n with
  | zero => intro l0 l1 l2 h hK; cases hK
  | succ n ih =>
    intro l0 l1 l2 h hK
    replace hK : (if (3205 : Int32) ≤ l2 then (some h) else ((gR h l0 12 2).bind fun v46 => (gR h l0 12 0).bind fun v57 => (aI h v57 0 l2).bind fun v61 => (sI h v46 0 (((3205 : Int32) * l1) + l2) v61).bind fun h62 => F_X12_image_38 n l0 l1 (l2 + (1 : Int32)) h62)) = some hz := hK
    refine mm_iload_n C (pc := 38) 2 dX12_image_38 rfl ?_
    refine mm_sipush C (pc := 39) (v := (3205 : Int32)) dX12_image_39 (by decide) ?_
    refine mm_icmp_ge C (pc := 42) (tgt := 69) dX12_image_42 (by decide) (fun hc => ?_) (fun hc => ?_)
    · replace hK := mm_ip hc hK
      cases hK
      exact mm_vret C (pc := 69) rfl dX12_image_69 rfl rfl
    · replace hK := mm_in hc hK
      refine mm_aload_n C (pc := 45) 0 dX12_image_45 rfl ?_
      replace hK := mm_bd hK; obtain ⟨v46, e46, hK⟩ := hK
      refine mm_getr C (pc := 46) (k := 2) inGX12 rfl (by decide) wd_2001 dX12_image_46 e46 ?_
      refine mm_sipush C (pc := 49) (v := (3205 : Int32)) dX12_image_49 (by decide) ?_
      refine mm_iload_n C (pc := 52) 1 dX12_image_52 rfl ?_
      refine mm_imul C (pc := 53) dX12_image_53 ?_
      refine mm_iload_n C (pc := 54) 2 dX12_image_54 rfl ?_
      refine mm_iadd C (pc := 55) dX12_image_55 ?_
      refine mm_aload_n C (pc := 56) 0 dX12_image_56 rfl ?_
      replace hK := mm_bd hK; obtain ⟨v57, e57, hK⟩ := hK
      refine mm_getr C (pc := 57) (k := 0) inGX12 rfl (by decide) wd_1999 dX12_image_57 e57 ?_
      refine mm_iload_n C (pc := 60) 2 dX12_image_60 rfl ?_
      replace hK := mm_bd hK; obtain ⟨v61, e61, hK⟩ := hK
      refine mm_iald C (pc := 61) dX12_image_61 e61 ?_
      replace hK := mm_bd hK; obtain ⟨h62, e62, hK⟩ := hK
      refine mm_iast C (pc := 62) dX12_image_62 e62 ?_
      refine mm_iinc C (pc := 63) (v := (l2 + (1 : Int32))) (lv' := [(2, .int (l2 + (1 : Int32))), (0, va_rf l0), (1, .int l1)]) 2 dX12_image_63 rfl rfl (by decide) rfl ?_
      refine mm_goto C (pc := 66) (tgt := 38) dX12_image_66 (by decide) ?_
      refine mm_sub C [1, 2, 0] rfl ?_
      exact ih _ _ _ _ hK
def F_X12_image_18 (l0 : Option Nat) (l1 : Int32) (s0 : Int32) (s1 : Option Nat) (h : MH) : Option MH := (pI h s1 12 4 s0).bind fun h18 => (gI h18 l0 12 4).bind fun v22 => if v22 ≤ 0 then ((gR h18 l0 12 3).bind fun v30 => (sZ h18 v30 l1 (1 : Int32)).bind fun h35 => F_X12_image_38 mm_N l0 l1 (0 : Int32) h35) else (some h18)
set_option maxRecDepth 20000 in
set_option maxHeartbeats 4000000 in
theorem w_X12_image_18 {d : Nat} {V : Nat → List (Nat × Value) → List Value → MH → Prop} {hz : MH} (hd : 2 ≤ d) (C : mm_C d yX12_image cX12_image 3 none (.inr none) hz V) (l0 : Option Nat) (l1 : Int32) (s0 : Int32) (s1 : Option Nat) (h : MH) (hK : F_X12_image_18 l0 l1 s0 s1 h = some hz) : V 18 [(0, va_rf l0), (1, .int l1)] [.int s0, va_rf s1] h := by
  unfold F_X12_image_18 at hK
  replace hK := mm_bd hK; obtain ⟨h18, e18, hK⟩ := hK
  refine mm_puti C (pc := 18) (k := 4) false (fun z => by cases z) inGX12 tyX12 tyX12_ok nmX12 rfl (by decide) wd_2003 rfl rfl dX12_image_18 e18 ?_
  refine mm_aload_n C (pc := 21) 0 dX12_image_21 rfl ?_
  replace hK := mm_bd hK; obtain ⟨v22, e22, hK⟩ := hK
  refine mm_geti C (pc := 22) (k := 4) inGX12 rfl (by decide) wd_2003 dX12_image_22 e22 ?_
  refine mm_if_le C (pc := 25) (tgt := 29) dX12_image_25 (by decide) (fun hc => ?_) (fun hc => ?_)
  · replace hK := mm_ip hc hK
    refine mm_aload_n C (pc := 29) 0 dX12_image_29 rfl ?_
    replace hK := mm_bd hK; obtain ⟨v30, e30, hK⟩ := hK
    refine mm_getr C (pc := 30) (k := 3) inGX12 rfl (by decide) wd_2002 dX12_image_30 e30 ?_
    refine mm_iload_n C (pc := 33) 1 dX12_image_33 rfl ?_
    refine mm_iconst C (pc := 34) (v := (1 : Int32)) dX12_image_34 (by decide) ?_
    replace hK := mm_bd hK; obtain ⟨h35, e35, hK⟩ := hK
    refine mm_zast C (pc := 35) dX12_image_35 e35 ?_
    refine mm_iconst C (pc := 36) (v := (0 : Int32)) dX12_image_36 (by decide) ?_
    refine mm_istore_n C (pc := 37) (i := 2) (lv' := [(2, .int (0 : Int32)), (0, va_rf l0), (1, .int l1)]) dX12_image_37 rfl (by decide) rfl ?_
    refine mm_sub C [1, 2, 0] rfl ?_
    exact w_X12_image_38 hd C _ _ _ _ _ hK
  · replace hK := mm_in hc hK
    cases hK
    exact mm_vret C (pc := 28) rfl dX12_image_28 rfl rfl
def F_X12_image (a0 : Option Nat) (a1 : Int32) (h : MH) : Option MH := mm_b2 (F_X12_within (a1.toInt64) (0 : Int64) (2 : Int64) h) fun v7 h7 => if v7 = 0 then (F_X12_image_18 a0 a1 (1 : Int32) a0 h7) else (F_X12_image_18 a0 a1 (0 : Int32) a0 h7)
set_option maxRecDepth 20000 in
set_option maxHeartbeats 4000000 in
theorem S_X12_image {d : Nat} (hd : 2 ≤ d) {a0 : Option Nat} {a1 : Int32} {h : MH} {hz : MH} (hK : F_X12_image a0 a1 h = some hz) : mm_M yX12_image cX12_image 3 none d [va_rf a0, .int a1] h (.inr none) hz := by
  refine mm_ofV (by decide +kernel) (by simp [lg_sl, mm_crf, mm_cti, mm_ctl]) (fun V C => ?_)
  rw [show lv_args 0 [va_rf a0, .int a1] = [(0, va_rf a0), (1, .int a1)] by simp [lv_args, mm_crf, mm_cti, mm_ctl]]
  unfold F_X12_image at hK
  refine mm_aload_n C (pc := 0) 0 dX12_image_0 rfl ?_
  refine mm_iload_n C (pc := 1) 1 dX12_image_1 rfl ?_
  refine mm_i2l C (pc := 2) dX12_image_2 ?_
  refine mm_lconst C (pc := 3) (v := (0 : Int64)) dX12_image_3 (by decide) ?_
  refine mm_ldc2 C (pc := 4) (v := (2 : Int64)) dX12_image_4 wd_2311 ?_
  replace hK := mm_b2s hK; obtain ⟨v7, h7, e7, hK⟩ := hK
  refine mm_callS C (pc := 7) (d1 := 1) (As := [.long (a1.toInt64), .long (0 : Int64), .long (2 : Int64)]) (st := [va_rf a0]) (vk := (some (.int v7))) ((S_X12_within (by omega)) e7) tT_X12_within wd_2157 wd_2158 (by omega) (by decide) rfl (by simp [mm_crf, mm_cti, mm_ctl]) rfl dX12_image_7 ?_
  show V _ _ (.int v7 :: _) _
  refine mm_if_eq C (pc := 10) (tgt := 17) dX12_image_10 (by decide) (fun hc => ?_) (fun hc => ?_)
  · replace hK := mm_ip hc hK
    refine mm_iconst C (pc := 17) (v := (1 : Int32)) dX12_image_17 (by decide) ?_
    exact w_X12_image_18 hd C _ _ _ _ _ hK
  · replace hK := mm_in hc hK
    refine mm_iconst C (pc := 13) (v := (0 : Int32)) dX12_image_13 (by decide) ?_
    refine mm_goto C (pc := 14) (tgt := 18) dX12_image_14 (by decide) ?_
    exact w_X12_image_18 hd C _ _ _ _ _ hK
def F_X12_restore_44 : Nat → Option Nat → Int32 → Int32 → MH → Option MH
  | 0 => fun _ _ _ _ => none
  | n + 1 => fun l0 l1 l2 h => if (3205 : Int32) ≤ l2 then (some h) else ((gR h l0 12 0).bind fun v52 => (gR h l0 12 2).bind fun v57 => (aI h v57 0 (((3205 : Int32) * l1) + l2)).bind fun v67 => (sI h v52 0 l2 v67).bind fun h68 => F_X12_restore_44 n l0 l1 (l2 + (1 : Int32)) h68)
set_option maxRecDepth 20000 in
set_option maxHeartbeats 4000000 in
theorem w_X12_restore_44 {d : Nat} {V : Nat → List (Nat × Value) → List Value → MH → Prop} {hz : MH} (hd : 2 ≤ d) (C : mm_C d yX12_restore cX12_restore 3 none (.inr none) hz V) : ∀ (n : Nat) (l0 : Option Nat) (l1 : Int32) (l2 : Int32) (h : MH), F_X12_restore_44 n l0 l1 l2 h = some hz → V 44 [(0, va_rf l0), (1, .int l1), (2, .int l2)] [] h := by
  intro n
  induction n with
  | zero => intro l0 l1 l2 h hK; cases hK
  | succ n ih =>
    intro l0 l1 l2 h hK
    replace hK : (if (3205 : Int32) ≤ l2 then (some h) else ((gR h l0 12 0).bind fun v52 => (gR h l0 12 2).bind fun v57 => (aI h v57 0 (((3205 : Int32) * l1) + l2)).bind fun v67 => (sI h v52 0 l2 v67).bind fun h68 => F_X12_restore_44 n l0 l1 (l2 + (1 : Int32)) h68)) = some hz := hK
    refine mm_iload_n C (pc := 44) 2 dX12_restore_44 rfl ?_
    refine mm_sipush C (pc := 45) (v := (3205 : Int32)) dX12_restore_45 (by decide) ?_
    refine mm_icmp_ge C (pc := 48) (tgt := 75) dX12_restore_48 (by decide) (fun hc => ?_) (fun hc => ?_)
    · replace hK := mm_ip hc hK
      cases hK
      exact mm_vret C (pc := 75) rfl dX12_restore_75 rfl rfl
    · replace hK := mm_in hc hK
      refine mm_aload_n C (pc := 51) 0 dX12_restore_51 rfl ?_
      replace hK := mm_bd hK; obtain ⟨v52, e52, hK⟩ := hK
      refine mm_getr C (pc := 52) (k := 0) inGX12 rfl (by decide) wd_1999 dX12_restore_52 e52 ?_
      refine mm_iload_n C (pc := 55) 2 dX12_restore_55 rfl ?_
      refine mm_aload_n C (pc := 56) 0 dX12_restore_56 rfl ?_
      replace hK := mm_bd hK; obtain ⟨v57, e57, hK⟩ := hK
      refine mm_getr C (pc := 57) (k := 2) inGX12 rfl (by decide) wd_2001 dX12_restore_57 e57 ?_
      refine mm_sipush C (pc := 60) (v := (3205 : Int32)) dX12_restore_60 (by decide) ?_
      refine mm_iload_n C (pc := 63) 1 dX12_restore_63 rfl ?_
      refine mm_imul C (pc := 64) dX12_restore_64 ?_
      refine mm_iload_n C (pc := 65) 2 dX12_restore_65 rfl ?_
      refine mm_iadd C (pc := 66) dX12_restore_66 ?_
      replace hK := mm_bd hK; obtain ⟨v67, e67, hK⟩ := hK
      refine mm_iald C (pc := 67) dX12_restore_67 e67 ?_
      replace hK := mm_bd hK; obtain ⟨h68, e68, hK⟩ := hK
      refine mm_iast C (pc := 68) dX12_restore_68 e68 ?_
      refine mm_iinc C (pc := 69) (v := (l2 + (1 : Int32))) (lv' := [(2, .int (l2 + (1 : Int32))), (0, va_rf l0), (1, .int l1)]) 2 dX12_restore_69 rfl rfl (by decide) rfl ?_
      refine mm_goto C (pc := 72) (tgt := 44) dX12_restore_72 (by decide) ?_
      refine mm_sub C [1, 2, 0] rfl ?_
      exact ih _ _ _ _ hK
def F_X12_restore_31 (l0 : Option Nat) (l1 : Int32) (s0 : Int32) (s1 : Option Nat) (h : MH) : Option MH := (pI h s1 12 4 s0).bind fun h31 => (gI h31 l0 12 4).bind fun v35 => if v35 ≤ 0 then (F_X12_restore_44 mm_N l0 l1 (0 : Int32) h31) else (some h31)
set_option maxRecDepth 20000 in
set_option maxHeartbeats 4000000 in
theorem w_X12_restore_31 {d : Nat} {V : Nat → List (Nat × Value) → List Value → MH → Prop} {hz : MH} (hd : 2 ≤ d) (C : mm_C d yX12_restore cX12_restore 3 none (.inr none) hz V) (l0 : Option Nat) (l1 : Int32) (s0 : Int32) (s1 : Option Nat) (h : MH) (hK : F_X12_restore_31 l0 l1 s0 s1 h = some hz) : V 31 [(0, va_rf l0), (1, .int l1)] [.int s0, va_rf s1] h := by
  unfold F_X12_restore_31 at hK
  replace hK := mm_bd hK; obtain ⟨h31, e31, hK⟩ := hK
  refine mm_puti C (pc := 31) (k := 4) false (fun z => by cases z) inGX12 tyX12 tyX12_ok nmX12 rfl (by decide) wd_2003 rfl rfl dX12_restore_31 e31 ?_
  refine mm_aload_n C (pc := 34) 0 dX12_restore_34 rfl ?_
  replace hK := mm_bd hK; obtain ⟨v35, e35, hK⟩ := hK
  refine mm_geti C (pc := 35) (k := 4) inGX12 rfl (by decide) wd_2003 dX12_restore_35 e35 ?_
  refine mm_if_le C (pc := 38) (tgt := 42) dX12_restore_38 (by decide) (fun hc => ?_) (fun hc => ?_)
  · replace hK := mm_ip hc hK
    refine mm_iconst C (pc := 42) (v := (0 : Int32)) dX12_restore_42 (by decide) ?_
    refine mm_istore_n C (pc := 43) (i := 2) (lv' := [(2, .int (0 : Int32)), (0, va_rf l0), (1, .int l1)]) dX12_restore_43 rfl (by decide) rfl ?_
    refine mm_sub C [1, 2, 0] rfl ?_
    exact w_X12_restore_44 hd C _ _ _ _ _ hK
  · replace hK := mm_in hc hK
    cases hK
    exact mm_vret C (pc := 41) rfl dX12_restore_41 rfl rfl
def F_X12_restore (a0 : Option Nat) (a1 : Int32) (h : MH) : Option MH := mm_b2 (F_X12_within (a1.toInt64) (0 : Int64) (2 : Int64) h) fun v7 h7 => if v7 = 0 then (F_X12_restore_31 a0 a1 (1 : Int32) a0 h7) else ((gR h7 a0 12 3).bind fun v18 => (aI h7 v18 3 a1).bind fun v22 => if v22 = 0 then (F_X12_restore_31 a0 a1 (2 : Int32) a0 h7) else (F_X12_restore_31 a0 a1 (0 : Int32) a0 h7))
set_option maxRecDepth 20000 in
set_option maxHeartbeats 4000000 in
theorem S_X12_restore {d : Nat} (hd : 2 ≤ d) {a0 : Option Nat} {a1 : Int32} {h : MH} {hz : MH} (hK : F_X12_restore a0 a1 h = some hz) : mm_M yX12_restore cX12_restore 3 none d [va_rf a0, .int a1] h (.inr none) hz := by
  refine mm_ofV (by decide +kernel) (by simp [lg_sl, mm_crf, mm_cti, mm_ctl]) (fun V C => ?_)
  rw [show lv_args 0 [va_rf a0, .int a1] = [(0, va_rf a0), (1, .int a1)] by simp [lv_args, mm_crf, mm_cti, mm_ctl]]
  unfold F_X12_restore at hK
  refine mm_aload_n C (pc := 0) 0 dX12_restore_0 rfl ?_
  refine mm_iload_n C (pc := 1) 1 dX12_restore_1 rfl ?_
  refine mm_i2l C (pc := 2) dX12_restore_2 ?_
  refine mm_lconst C (pc := 3) (v := (0 : Int64)) dX12_restore_3 (by decide) ?_
  refine mm_ldc2 C (pc := 4) (v := (2 : Int64)) dX12_restore_4 wd_2311 ?_
  replace hK := mm_b2s hK; obtain ⟨v7, h7, e7, hK⟩ := hK
  refine mm_callS C (pc := 7) (d1 := 1) (As := [.long (a1.toInt64), .long (0 : Int64), .long (2 : Int64)]) (st := [va_rf a0]) (vk := (some (.int v7))) ((S_X12_within (by omega)) e7) tT_X12_within wd_2157 wd_2158 (by omega) (by decide) rfl (by simp [mm_crf, mm_cti, mm_ctl]) rfl dX12_restore_7 ?_
  show V _ _ (.int v7 :: _) _
  refine mm_if_ne C (pc := 10) (tgt := 17) dX12_restore_10 (by decide) (fun hc => ?_) (fun hc => ?_)
  · replace hK := mm_in hc hK
    refine mm_aload_n C (pc := 17) 0 dX12_restore_17 rfl ?_
    replace hK := mm_bd hK; obtain ⟨v18, e18, hK⟩ := hK
    refine mm_getr C (pc := 18) (k := 3) inGX12 rfl (by decide) wd_2002 dX12_restore_18 e18 ?_
    refine mm_iload_n C (pc := 21) 1 dX12_restore_21 rfl ?_
    replace hK := mm_bd hK; obtain ⟨v22, e22, hK⟩ := hK
    refine mm_zald C (pc := 22) dX12_restore_22 e22 ?_
    refine mm_if_ne C (pc := 23) (tgt := 30) dX12_restore_23 (by decide) (fun hc => ?_) (fun hc => ?_)
    · replace hK := mm_in hc hK
      refine mm_iconst C (pc := 30) (v := (0 : Int32)) dX12_restore_30 (by decide) ?_
      exact w_X12_restore_31 hd C _ _ _ _ _ hK
    · replace hK := mm_ip hc hK
      refine mm_iconst C (pc := 26) (v := (2 : Int32)) dX12_restore_26 (by decide) ?_
      refine mm_goto C (pc := 27) (tgt := 31) dX12_restore_27 (by decide) ?_
      exact w_X12_restore_31 hd C _ _ _ _ _ hK
  · replace hK := mm_ip hc hK
    refine mm_iconst C (pc := 13) (v := (1 : Int32)) dX12_restore_13 (by decide) ?_
    refine mm_goto C (pc := 14) (tgt := 31) dX12_restore_14 (by decide) ?_
    exact w_X12_restore_31 hd C _ _ _ _ _ hK
def F_X12_count (a0 : Option Nat) (a1 : Int32) (h : MH) : Option (Int32 × MH) := (pI h a0 12 4 (0 : Int32)).bind fun h2 => if a1 = (0 : Int32) then ((gR h2 a0 12 0).bind fun v69 => (aI h2 v69 0 (0 : Int32)).bind fun v73 => some (v73, h2)) else if a1 = (1 : Int32) then ((gR h2 a0 12 0).bind fun v76 => (aI h2 v76 0 (1 : Int32)).bind fun v80 => some (v80, h2)) else if a1 = (2 : Int32) then ((gR h2 a0 12 0).bind fun v83 => (aI h2 v83 0 (2 : Int32)).bind fun v87 => some (v87, h2)) else if a1 = (3 : Int32) then (mm_b2 (cV h2 a0 12 (F_X12_calls a0 h2)) fun v90 h90 => some (v90, h90)) else if a1 = (4 : Int32) then (mm_b2 (cV h2 a0 12 (F_X12_callsThat a0 (0 : Int32) h2)) fun v96 h96 => some (v96, h96)) else if a1 = (5 : Int32) then (mm_b2 (cV h2 a0 12 (F_X12_callsThat a0 (1 : Int32) h2)) fun v102 h102 => some (v102, h102)) else if a1 = (6 : Int32) then (mm_b2 (cV h2 a0 12 (F_X12_callsThat a0 (2 : Int32) h2)) fun v108 h108 => some (v108, h108)) else if a1 = (7 : Int32) then (mm_b2 (cV h2 a0 12 (F_X12_callsThat a0 (3 : Int32) h2)) fun v114 h114 => some (v114, h114)) else if a1 = (8 : Int32) then (mm_b2 (cV h2 a0 12 (F_X12_twosWed a0 h2)) fun v119 h119 => some (v119, h119)) else if a1 = (9 : Int32) then ((gR h2 a0 12 0).bind fun v124 => (aI h2 v124 0 (47 : Int32)).bind fun v129 => some (v129, h2)) else if a1 = (10 : Int32) then ((gR h2 a0 12 0).bind fun v132 => (aI h2 v132 0 (6 : Int32)).bind fun v137 => some (v137, h2)) else if a1 = (11 : Int32) then ((gI h2 a0 12 6).bind fun v140 => some (v140, h2)) else (some (((-1) : Int32), h2))
set_option maxRecDepth 20000 in
set_option maxHeartbeats 4000000 in
theorem S_X12_count {d : Nat} (hd : 3 ≤ d) {a0 : Option Nat} {a1 : Int32} {h : MH} {r : Int32} {hz : MH} (hK : F_X12_count a0 a1 h = some (r, hz)) : mm_M yX12_count cX12_count 2 (some .int) d [va_rf a0, .int a1] h (.inr (some (.int r))) hz := by
  refine mm_ofV (by decide +kernel) (by simp [lg_sl, mm_crf, mm_cti, mm_ctl]) (fun V C => ?_)
  rw [show lv_args 0 [va_rf a0, .int a1] = [(0, va_rf a0), (1, .int a1)] by simp [lv_args, mm_crf, mm_cti, mm_ctl]]
  unfold F_X12_count at hK
  refine mm_aload_n C (pc := 0) 0 dX12_count_0 rfl ?_
  refine mm_iconst C (pc := 1) (v := (0 : Int32)) dX12_count_1 (by decide) ?_
  replace hK := mm_bd hK; obtain ⟨h2, e2, hK⟩ := hK
  refine mm_puti C (pc := 2) (k := 4) false (fun z => by cases z) inGX12 tyX12 tyX12_ok nmX12 rfl (by decide) wd_2003 rfl rfl dX12_count_2 e2 ?_
  refine mm_iload_n C (pc := 5) 1 dX12_count_5 rfl ?_
  by_cases hc6_0 : a1 = (0 : Int32)
  · replace hK := mm_ip hc6_0 hK
    refine mm_tableIn C (pc := 6) (tgt := 68) (off := 62) dX12_count_6 (by rw [hc6_0]; decide) (by rw [hc6_0]; decide) (by rw [hc6_0]; rfl) (by decide) ?_
    refine mm_aload_n C (pc := 68) 0 dX12_count_68 rfl ?_
    replace hK := mm_bd hK; obtain ⟨v69, e69, hK⟩ := hK
    refine mm_getr C (pc := 69) (k := 0) inGX12 rfl (by decide) wd_1999 dX12_count_69 e69 ?_
    refine mm_iconst C (pc := 72) (v := (0 : Int32)) dX12_count_72 (by decide) ?_
    replace hK := mm_bd hK; obtain ⟨v73, e73, hK⟩ := hK
    refine mm_iald C (pc := 73) dX12_count_73 e73 ?_
    cases hK
    exact mm_iret C (pc := 74) rfl dX12_count_74 rfl rfl
  replace hK := mm_in hc6_0 hK
  by_cases hc6_1 : a1 = (1 : Int32)
  · replace hK := mm_ip hc6_1 hK
    refine mm_tableIn C (pc := 6) (tgt := 75) (off := 69) dX12_count_6 (by rw [hc6_1]; decide) (by rw [hc6_1]; decide) (by rw [hc6_1]; rfl) (by decide) ?_
    refine mm_aload_n C (pc := 75) 0 dX12_count_75 rfl ?_
    replace hK := mm_bd hK; obtain ⟨v76, e76, hK⟩ := hK
    refine mm_getr C (pc := 76) (k := 0) inGX12 rfl (by decide) wd_1999 dX12_count_76 e76 ?_
    refine mm_iconst C (pc := 79) (v := (1 : Int32)) dX12_count_79 (by decide) ?_
    replace hK := mm_bd hK; obtain ⟨v80, e80, hK⟩ := hK
    refine mm_iald C (pc := 80) dX12_count_80 e80 ?_
    cases hK
    exact mm_iret C (pc := 81) rfl dX12_count_81 rfl rfl
  replace hK := mm_in hc6_1 hK
  by_cases hc6_2 : a1 = (2 : Int32)
  · replace hK := mm_ip hc6_2 hK
    refine mm_tableIn C (pc := 6) (tgt := 82) (off := 76) dX12_count_6 (by rw [hc6_2]; decide) (by rw [hc6_2]; decide) (by rw [hc6_2]; rfl) (by decide) ?_
    refine mm_aload_n C (pc := 82) 0 dX12_count_82 rfl ?_
    replace hK := mm_bd hK; obtain ⟨v83, e83, hK⟩ := hK
    refine mm_getr C (pc := 83) (k := 0) inGX12 rfl (by decide) wd_1999 dX12_count_83 e83 ?_
    refine mm_iconst C (pc := 86) (v := (2 : Int32)) dX12_count_86 (by decide) ?_
    replace hK := mm_bd hK; obtain ⟨v87, e87, hK⟩ := hK
    refine mm_iald C (pc := 87) dX12_count_87 e87 ?_
    cases hK
    exact mm_iret C (pc := 88) rfl dX12_count_88 rfl rfl
  replace hK := mm_in hc6_2 hK
  by_cases hc6_3 : a1 = (3 : Int32)
  · replace hK := mm_ip hc6_3 hK
    refine mm_tableIn C (pc := 6) (tgt := 89) (off := 83) dX12_count_6 (by rw [hc6_3]; decide) (by rw [hc6_3]; decide) (by rw [hc6_3]; rfl) (by decide) ?_
    refine mm_aload_n C (pc := 89) 0 dX12_count_89 rfl ?_
    replace hK := mm_b2s hK; obtain ⟨v90, h90, e90, hK⟩ := hK
    obtain ⟨o90, e90⟩ := cV_some e90
    refine mm_callV C (pc := 90) (d1 := 1) (As := []) (st := []) (vk := (some (.int v90))) ((S_X12_calls (by omega)) e90) tT_X12_calls o90 (Or.inr ⟨_, rfl, rfl⟩) wd_2295 wd_2297 wd_87 (by omega) (by decide) rfl (by simp [mm_crf, mm_cti, mm_ctl]) rfl dX12_count_90 ?_
    show V _ _ (.int v90 :: _) _
    cases hK
    exact mm_iret C (pc := 93) rfl dX12_count_93 rfl rfl
  replace hK := mm_in hc6_3 hK
  by_cases hc6_4 : a1 = (4 : Int32)
  · replace hK := mm_ip hc6_4 hK
    refine mm_tableIn C (pc := 6) (tgt := 94) (off := 88) dX12_count_6 (by rw [hc6_4]; decide) (by rw [hc6_4]; decide) (by rw [hc6_4]; rfl) (by decide) ?_
    refine mm_aload_n C (pc := 94) 0 dX12_count_94 rfl ?_
    refine mm_iconst C (pc := 95) (v := (0 : Int32)) dX12_count_95 (by decide) ?_
    replace hK := mm_b2s hK; obtain ⟨v96, h96, e96, hK⟩ := hK
    obtain ⟨o96, e96⟩ := cV_some e96
    refine mm_callV C (pc := 96) (d1 := 2) (As := [.int (0 : Int32)]) (st := []) (vk := (some (.int v96))) ((S_X12_callsThat (by omega)) e96) tT_X12_callsThat o96 (Or.inr ⟨_, rfl, rfl⟩) wd_2461 wd_2463 wd_108 (by omega) (by decide) rfl (by simp [mm_crf, mm_cti, mm_ctl]) rfl dX12_count_96 ?_
    show V _ _ (.int v96 :: _) _
    cases hK
    exact mm_iret C (pc := 99) rfl dX12_count_99 rfl rfl
  replace hK := mm_in hc6_4 hK
  by_cases hc6_5 : a1 = (5 : Int32)
  · replace hK := mm_ip hc6_5 hK
    refine mm_tableIn C (pc := 6) (tgt := 100) (off := 94) dX12_count_6 (by rw [hc6_5]; decide) (by rw [hc6_5]; decide) (by rw [hc6_5]; rfl) (by decide) ?_
    refine mm_aload_n C (pc := 100) 0 dX12_count_100 rfl ?_
    refine mm_iconst C (pc := 101) (v := (1 : Int32)) dX12_count_101 (by decide) ?_
    replace hK := mm_b2s hK; obtain ⟨v102, h102, e102, hK⟩ := hK
    obtain ⟨o102, e102⟩ := cV_some e102
    refine mm_callV C (pc := 102) (d1 := 2) (As := [.int (1 : Int32)]) (st := []) (vk := (some (.int v102))) ((S_X12_callsThat (by omega)) e102) tT_X12_callsThat o102 (Or.inr ⟨_, rfl, rfl⟩) wd_2461 wd_2463 wd_108 (by omega) (by decide) rfl (by simp [mm_crf, mm_cti, mm_ctl]) rfl dX12_count_102 ?_
    show V _ _ (.int v102 :: _) _
    cases hK
    exact mm_iret C (pc := 105) rfl dX12_count_105 rfl rfl
  replace hK := mm_in hc6_5 hK
  by_cases hc6_6 : a1 = (6 : Int32)
  · replace hK := mm_ip hc6_6 hK
    refine mm_tableIn C (pc := 6) (tgt := 106) (off := 100) dX12_count_6 (by rw [hc6_6]; decide) (by rw [hc6_6]; decide) (by rw [hc6_6]; rfl) (by decide) ?_
    refine mm_aload_n C (pc := 106) 0 dX12_count_106 rfl ?_
    refine mm_iconst C (pc := 107) (v := (2 : Int32)) dX12_count_107 (by decide) ?_
    replace hK := mm_b2s hK; obtain ⟨v108, h108, e108, hK⟩ := hK
    obtain ⟨o108, e108⟩ := cV_some e108
    refine mm_callV C (pc := 108) (d1 := 2) (As := [.int (2 : Int32)]) (st := []) (vk := (some (.int v108))) ((S_X12_callsThat (by omega)) e108) tT_X12_callsThat o108 (Or.inr ⟨_, rfl, rfl⟩) wd_2461 wd_2463 wd_108 (by omega) (by decide) rfl (by simp [mm_crf, mm_cti, mm_ctl]) rfl dX12_count_108 ?_
    show V _ _ (.int v108 :: _) _
    cases hK
    exact mm_iret C (pc := 111) rfl dX12_count_111 rfl rfl
  replace hK := mm_in hc6_6 hK
  by_cases hc6_7 : a1 = (7 : Int32)
  · replace hK := mm_ip hc6_7 hK
    refine mm_tableIn C (pc := 6) (tgt := 112) (off := 106) dX12_count_6 (by rw [hc6_7]; decide) (by rw [hc6_7]; decide) (by rw [hc6_7]; rfl) (by decide) ?_
    refine mm_aload_n C (pc := 112) 0 dX12_count_112 rfl ?_
    refine mm_iconst C (pc := 113) (v := (3 : Int32)) dX12_count_113 (by decide) ?_
    replace hK := mm_b2s hK; obtain ⟨v114, h114, e114, hK⟩ := hK
    obtain ⟨o114, e114⟩ := cV_some e114
    refine mm_callV C (pc := 114) (d1 := 2) (As := [.int (3 : Int32)]) (st := []) (vk := (some (.int v114))) ((S_X12_callsThat (by omega)) e114) tT_X12_callsThat o114 (Or.inr ⟨_, rfl, rfl⟩) wd_2461 wd_2463 wd_108 (by omega) (by decide) rfl (by simp [mm_crf, mm_cti, mm_ctl]) rfl dX12_count_114 ?_
    show V _ _ (.int v114 :: _) _
    cases hK
    exact mm_iret C (pc := 117) rfl dX12_count_117 rfl rfl
  replace hK := mm_in hc6_7 hK
  by_cases hc6_8 : a1 = (8 : Int32)
  · replace hK := mm_ip hc6_8 hK
    refine mm_tableIn C (pc := 6) (tgt := 118) (off := 112) dX12_count_6 (by rw [hc6_8]; decide) (by rw [hc6_8]; decide) (by rw [hc6_8]; rfl) (by decide) ?_
    refine mm_aload_n C (pc := 118) 0 dX12_count_118 rfl ?_
    replace hK := mm_b2s hK; obtain ⟨v119, h119, e119, hK⟩ := hK
    obtain ⟨o119, e119⟩ := cV_some e119
    refine mm_callV C (pc := 119) (d1 := 1) (As := []) (st := []) (vk := (some (.int v119))) ((S_X12_twosWed (by omega)) e119) tT_X12_twosWed o119 (Or.inr ⟨_, rfl, rfl⟩) wd_2465 wd_2467 wd_109 (by omega) (by decide) rfl (by simp [mm_crf, mm_cti, mm_ctl]) rfl dX12_count_119 ?_
    show V _ _ (.int v119 :: _) _
    cases hK
    exact mm_iret C (pc := 122) rfl dX12_count_122 rfl rfl
  replace hK := mm_in hc6_8 hK
  by_cases hc6_9 : a1 = (9 : Int32)
  · replace hK := mm_ip hc6_9 hK
    refine mm_tableIn C (pc := 6) (tgt := 123) (off := 117) dX12_count_6 (by rw [hc6_9]; decide) (by rw [hc6_9]; decide) (by rw [hc6_9]; rfl) (by decide) ?_
    refine mm_aload_n C (pc := 123) 0 dX12_count_123 rfl ?_
    replace hK := mm_bd hK; obtain ⟨v124, e124, hK⟩ := hK
    refine mm_getr C (pc := 124) (k := 0) inGX12 rfl (by decide) wd_1999 dX12_count_124 e124 ?_
    refine mm_bipush C (pc := 127) (v := (47 : Int32)) dX12_count_127 (by decide) ?_
    replace hK := mm_bd hK; obtain ⟨v129, e129, hK⟩ := hK
    refine mm_iald C (pc := 129) dX12_count_129 e129 ?_
    cases hK
    exact mm_iret C (pc := 130) rfl dX12_count_130 rfl rfl
  replace hK := mm_in hc6_9 hK
  by_cases hc6_10 : a1 = (10 : Int32)
  · replace hK := mm_ip hc6_10 hK
    refine mm_tableIn C (pc := 6) (tgt := 131) (off := 125) dX12_count_6 (by rw [hc6_10]; decide) (by rw [hc6_10]; decide) (by rw [hc6_10]; rfl) (by decide) ?_
    refine mm_aload_n C (pc := 131) 0 dX12_count_131 rfl ?_
    replace hK := mm_bd hK; obtain ⟨v132, e132, hK⟩ := hK
    refine mm_getr C (pc := 132) (k := 0) inGX12 rfl (by decide) wd_1999 dX12_count_132 e132 ?_
    refine mm_bipush C (pc := 135) (v := (6 : Int32)) dX12_count_135 (by decide) ?_
    replace hK := mm_bd hK; obtain ⟨v137, e137, hK⟩ := hK
    refine mm_iald C (pc := 137) dX12_count_137 e137 ?_
    cases hK
    exact mm_iret C (pc := 138) rfl dX12_count_138 rfl rfl
  replace hK := mm_in hc6_10 hK
  by_cases hc6_11 : a1 = (11 : Int32)
  · replace hK := mm_ip hc6_11 hK
    refine mm_tableIn C (pc := 6) (tgt := 139) (off := 133) dX12_count_6 (by rw [hc6_11]; decide) (by rw [hc6_11]; decide) (by rw [hc6_11]; rfl) (by decide) ?_
    refine mm_aload_n C (pc := 139) 0 dX12_count_139 rfl ?_
    replace hK := mm_bd hK; obtain ⟨v140, e140, hK⟩ := hK
    refine mm_geti C (pc := 140) (k := 6) inGX12 rfl (by decide) wd_2005 dX12_count_140 e140 ?_
    cases hK
    exact mm_iret C (pc := 143) rfl dX12_count_143 rfl rfl
  replace hK := mm_in hc6_11 hK
  refine mm_tableOut C (pc := 6) (tgt := 144) dX12_count_6 (by have t0 := mm_nei hc6_0 (k := 0) (by decide); have t1 := mm_nei hc6_1 (k := 1) (by decide); have t2 := mm_nei hc6_2 (k := 2) (by decide); have t3 := mm_nei hc6_3 (k := 3) (by decide); have t4 := mm_nei hc6_4 (k := 4) (by decide); have t5 := mm_nei hc6_5 (k := 5) (by decide); have t6 := mm_nei hc6_6 (k := 6) (by decide); have t7 := mm_nei hc6_7 (k := 7) (by decide); have t8 := mm_nei hc6_8 (k := 8) (by decide); have t9 := mm_nei hc6_9 (k := 9) (by decide); have t10 := mm_nei hc6_10 (k := 10) (by decide); have t11 := mm_nei hc6_11 (k := 11) (by decide); omega) (by decide) ?_
  refine mm_iconst C (pc := 144) (v := ((-1) : Int32)) dX12_count_144 (by decide) ?_
  cases hK
  exact mm_iret C (pc := 145) rfl dX12_count_145 rfl rfl
