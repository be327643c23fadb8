theorem wd_1961 : Cond.code yX10_cut cX10_cut 3 (some .long) ∈ lw_good := mm_wd 1961 (by decide +kernel) (by decide +kernel)
theorem tT_X10_cut : mm_T yX10_cut cX10_cut 3 (some .long) 1 := ⟨wd_1961, wd_169, by decide +kernel, by decide +kernel, by decide +kernel, by decide +kernel⟩
theorem wd_1958 : Cond.methodLink RX10 40 yX10_cut ∈ lw_good := mm_wd 1958 (by decide +kernel) (by decide +kernel)
theorem wd_1960 : Cond.instanceMethod yX10_cut ∈ lw_good := mm_wd 1960 (by decide +kernel) (by decide +kernel)
theorem wd_60 : Cond.selects RX10 yX10_cut yX10_cut ∈ lw_good := mm_wd 60 (by decide +kernel) (by decide +kernel)
def F_X10_put_23 (h : MH) : Option MH := some h
set_option maxRecDepth 20000 in
set_option maxHeartbeats 4000000 in
theorem w_X10_put_23 {d : Nat} {V : Nat → List (Nat × Value) → List Value → MH → Prop} {hz : MH} (hd : 2 ≤ d) (C : mm_C d yX10_put cX10_put 4 none (.inr none) hz V) (h : MH) (hK : F_X10_put_23  h = some hz) : V 23 [] [] h := by
  unfold F_X10_put_23 at hK
  cases hK
  exact mm_vret C (pc := 23) rfl dX10_put_23 rfl rfl
def F_X10_put (a0 : Option Nat) (a1 : Int32) (a2 : Int64) (h : MH) : Option MH := if a1 < 0 then (F_X10_put_23 h) else (mm_b2 (cV h a0 10 (F_X10_many a0 h)) fun v6 h6 => if v6 ≤ a1 then (F_X10_put_23 h6) else ((gR h6 a0 10 0).bind fun v13 => mm_b2 (cV h6 a0 10 (F_X10_cut a0 a2 h6)) fun v19 h19 => (sL h19 v13 a1 v19).bind fun h22 => F_X10_put_23 h22))
set_option maxRecDepth 20000 in
set_option maxHeartbeats 4000000 in
theorem S_X10_put {d : Nat} (hd : 2 ≤ d) {a0 : Option Nat} {a1 : Int32} {a2 : Int64} {h : MH} {hz : MH} (hK : F_X10_put a0 a1 a2 h = some hz) : mm_M yX10_put cX10_put 4 none d [va_rf a0, .int a1, .long a2] h (.inr none) hz := by
  refine mm_ofV (by decide +kernel) (by simp [lg_sl, mm_crf, mm_cti, mm_ctl]) (fun V C => ?_)
  rw [show lv_args 0 [va_rf a0, .int a1, .long a2] = [(0, va_rf a0), (1, .int a1), (2, .long a2)] by simp [lv_args, mm_crf, mm_cti, mm_ctl]]
  unfold F_X10_put at hK
  refine mm_iload_n C (pc := 0) 1 dX10_put_0 rfl ?_
  refine mm_if_lt C (pc := 1) (tgt := 23) dX10_put_1 (by decide) (fun hc => ?_) (fun hc => ?_)
  · replace hK := mm_ip hc hK
    refine mm_sub C [] rfl ?_
    exact w_X10_put_23 hd C _ hK
  · replace hK := mm_in hc hK
    refine mm_iload_n C (pc := 4) 1 dX10_put_4 rfl ?_
    refine mm_aload_n C (pc := 5) 0 dX10_put_5 rfl ?_
    replace hK := mm_b2s hK; obtain ⟨v6, h6, e6, hK⟩ := hK
    obtain ⟨o6, e6⟩ := cV_some e6
    refine mm_callV C (pc := 6) (d1 := 1) (As := []) (st := [.int a1]) (vk := (some (.int v6))) ((S_X10_many (by omega)) e6) tT_X10_many o6 (Or.inr ⟨_, rfl, rfl⟩) wd_1579 wd_1571 wd_1572 (by omega) (by decide) rfl (by simp [mm_crf, mm_cti, mm_ctl]) rfl dX10_put_6 ?_
    show V _ _ (.int v6 :: _) _
    refine mm_icmp_ge C (pc := 9) (tgt := 23) dX10_put_9 (by decide) (fun hc => ?_) (fun hc => ?_)
    · replace hK := mm_ip hc hK
      refine mm_sub C [] rfl ?_
      exact w_X10_put_23 hd C _ hK
    · replace hK := mm_in hc hK
      refine mm_aload_n C (pc := 12) 0 dX10_put_12 rfl ?_
      replace hK := mm_bd hK; obtain ⟨v13, e13, hK⟩ := hK
      refine mm_getr C (pc := 13) (k := 0) inGX10 rfl (by decide) wd_834 dX10_put_13 e13 ?_
      refine mm_iload_n C (pc := 16) 1 dX10_put_16 rfl ?_
      refine mm_aload_n C (pc := 17) 0 dX10_put_17 rfl ?_
      refine mm_lload_n C (pc := 18) 2 dX10_put_18 rfl ?_
      replace hK := mm_b2s hK; obtain ⟨v19, h19, e19, hK⟩ := hK
      obtain ⟨o19, e19⟩ := cV_some e19
      refine mm_callV C (pc := 19) (d1 := 1) (As := [.long a2]) (st := [.int a1, va_rf v13]) (vk := (some (.long v19))) ((S_X10_cut (by omega)) e19) tT_X10_cut o19 (Or.inr ⟨_, rfl, rfl⟩) wd_1958 wd_1960 wd_60 (by omega) (by decide) rfl (by simp [mm_crf, mm_cti, mm_ctl]) rfl dX10_put_19 ?_
      show V _ _ (.long v19 :: _) _
      replace hK := mm_bd hK; obtain ⟨h22, e22, hK⟩ := hK
      refine mm_last C (pc := 22) dX10_put_22 e22 ?_
      refine mm_sub C [] rfl ?_
      exact w_X10_put_23 hd C _ hK
theorem wd_1938 : Cond.classLink RX11 398 "java/lang/IndexOutOfBoundsException" ∈ lw_good := mm_wd 1938 (by decide +kernel) (by decide +kernel)
theorem wd_174 : Cond.initialized "java/lang/IndexOutOfBoundsException" ∈ lw_good := mm_wd 174 (by decide +kernel) (by decide +kernel)
theorem tW_X11_398_402 : mm_Tw RX11 "java/lang/IndexOutOfBoundsException" 398 402 := ⟨⟨by decide +kernel, wd_1938, wd_174⟩, mm_fg (by decide +kernel), mm_fn (by decide +kernel), by decide +kernel⟩
theorem wd_1957 : Cond.code yX10_put cX10_put 4 none ∈ lw_good := mm_wd 1957 (by decide +kernel) (by decide +kernel)
theorem tT_X10_put : mm_T yX10_put cX10_put 4 none 2 := ⟨wd_1957, wd_169, by decide +kernel, by decide +kernel, by decide +kernel, by decide +kernel⟩
theorem wd_1954 : Cond.methodLink RX11 403 yX10_put ∈ lw_good := mm_wd 1954 (by decide +kernel) (by decide +kernel)
theorem wd_1955 : Cond.instanceMethod yX10_put ∈ lw_good := mm_wd 1955 (by decide +kernel) (by decide +kernel)
theorem wd_1956 : Cond.selects RX10 yX10_put yX10_put ∈ lw_good := mm_wd 1956 (by decide +kernel) (by decide +kernel)
def F_X11_write_20 (h : MH) : Option ((String ⊕ Int64) × MH) := (tH h).bind fun h20 => some (.inl "java/lang/IndexOutOfBoundsException", h20)
set_option maxRecDepth 20000 in
set_option maxHeartbeats 4000000 in
theorem w_X11_write_20 {d : Nat} {V : Nat → List (Nat × Value) → List Value → MH → Prop} {r : String ⊕ Int64} {hz : MH} (hd : 8 ≤ d) (C : mm_C d yX11_write cX11_write 6 (some .long) (mm_oj r) hz V) (h : MH) (hK : F_X11_write_20  h = some (r, hz)) : V 20 [] [] h := by
  unfold F_X11_write_20 at hK
  replace hK := mm_bd hK; obtain ⟨h20, e20, hK⟩ := hK
  cases hK
  exact mm_throwW C (pc := 20) (i := 31) tW_X11_398_402 (by rfl) dX11_write_20 dX11_write_23 dX11_write_24 dX11_write_27 dX11_write_30 (by omega) (by simp [mm_crf, mm_cti, mm_ctl]) rfl e20
def F_X11_write (a0 : Option Nat) (a1 : Int32) (a2 : Int32) (a3 : Int64) (h : MH) : Option ((String ⊕ Int64) × MH) := mm_b3 (cV h a0 11 (F_X11_toldTray a0 a1 h)) fun v2 h2 => if a2 < 0 then (F_X11_write_20 h2) else (mm_b2 (cV h2 v2 10 (F_X10_many v2 h2)) fun v14 h14 => if a2 < v14 then ((cV h14 v2 10 (F_X10_put v2 a2 a3 h14)).bind fun h35 => mm_b2 (cV h35 v2 10 (F_X10_at v2 a2 h35)) fun v41 h41 => some (.inr v41, h41)) else (F_X11_write_20 h14))
set_option maxRecDepth 20000 in
set_option maxHeartbeats 4000000 in
theorem S_X11_write {d : Nat} (hd : 8 ≤ d) {a0 : Option Nat} {a1 : Int32} {a2 : Int32} {a3 : Int64} {h : MH} {r : String ⊕ Int64} {hz : MH} (hK : F_X11_write a0 a1 a2 a3 h = some (r, hz)) : mm_M yX11_write cX11_write 6 (some .long) d [va_rf a0, .int a1, .int a2, .long a3] h (mm_oj r) hz := by
  refine mm_ofV (by decide +kernel) (by simp [lg_sl, mm_crf, mm_cti, mm_ctl]) (fun V C => ?_)
  rw [show lv_args 0 [va_rf a0, .int a1, .int a2, .long a3] = [(0, va_rf a0), (1, .int a1), (2, .int a2), (3, .long a3)] by simp [lv_args, mm_crf, mm_cti, mm_ctl]]
  unfold F_X11_write at hK
  refine mm_aload_n C (pc := 0) 0 dX11_write_0 rfl ?_
  refine mm_iload_n C (pc := 1) 1 dX11_write_1 rfl ?_
  replace hK := mm_b3s hK; rcases hK with ⟨E2, e2, rfl⟩ | ⟨v2, h2, e2, hK⟩
  · obtain ⟨o2, e2⟩ := cV_some e2
    exact mm_callVX C (pc := 2) (d1 := 7) (As := [.int a1]) (st := []) ((S_X11_toldTray (by omega)) e2) tT_X11_toldTray o2 (Or.inr ⟨_, rfl, rfl⟩) wd_1541 wd_1543 wd_40 (by omega) (by decide) rfl (by simp [mm_crf, mm_cti, mm_ctl]) rfl dX11_write_2 rfl rfl
  obtain ⟨o2, e2⟩ := cV_some e2
  refine mm_callV C (pc := 2) (d1 := 7) (As := [.int a1]) (st := []) (vk := (some (va_rf v2))) ((S_X11_toldTray (by omega)) e2) tT_X11_toldTray o2 (Or.inr ⟨_, rfl, rfl⟩) wd_1541 wd_1543 wd_40 (by omega) (by decide) rfl (by simp [mm_crf, mm_cti, mm_ctl]) rfl dX11_write_2 ?_
  show V _ _ (va_rf v2 :: _) _
  refine mm_astore C (pc := 5) (i := 5) (lv' := [(5, va_rf v2), (0, va_rf a0), (1, .int a1), (2, .int a2), (3, .long a3)]) dX11_write_5 (by decide) rfl ?_
  refine mm_iload_n C (pc := 7) 3 dX11_write_7 rfl ?_
  refine mm_if_lt C (pc := 8) (tgt := 20) dX11_write_8 (by decide) (fun hc => ?_) (fun hc => ?_)
  · replace hK := mm_ip hc hK
    refine mm_sub C [] rfl ?_
    exact w_X11_write_20 hd C _ hK
  · replace hK := mm_in hc hK
    refine mm_iload_n C (pc := 11) 3 dX11_write_11 rfl ?_
    refine mm_aload C (pc := 12) 0 dX11_write_12 rfl ?_
    replace hK := mm_b2s hK; obtain ⟨v14, h14, e14, hK⟩ := hK
    obtain ⟨o14, e14⟩ := cV_some e14
    refine mm_callV C (pc := 14) (d1 := 1) (As := []) (st := [.int a2]) (vk := (some (.int v14))) ((S_X10_many (by omega)) e14) tT_X10_many o14 (Or.inr ⟨_, rfl, rfl⟩) wd_1570 wd_1571 wd_1572 (by omega) (by decide) rfl (by simp [mm_crf, mm_cti, mm_ctl]) rfl dX11_write_14 ?_
    show V _ _ (.int v14 :: _) _
    refine mm_icmp_lt C (pc := 17) (tgt := 31) dX11_write_17 (by decide) (fun hc => ?_) (fun hc => ?_)
    · replace hK := mm_ip hc hK
      refine mm_aload C (pc := 31) 0 dX11_write_31 rfl ?_
      refine mm_iload_n C (pc := 33) 3 dX11_write_33 rfl ?_
      refine mm_lload_n C (pc := 34) 4 dX11_write_34 rfl ?_
      replace hK := mm_bd hK; obtain ⟨h35, e35, hK⟩ := hK
      obtain ⟨o35, e35⟩ := cV_some e35
      refine mm_callV C (pc := 35) (d1 := 2) (As := [.int a2, .long a3]) (st := []) (vk := none) ((S_X10_put (by omega)) e35) tT_X10_put o35 (Or.inr ⟨_, rfl, rfl⟩) wd_1954 wd_1955 wd_1956 (by omega) (by decide) rfl (by simp [mm_crf, mm_cti, mm_ctl]) rfl dX11_write_35 ?_
      show V _ _ [] _
      refine mm_aload C (pc := 38) 0 dX11_write_38 rfl ?_
      refine mm_iload_n C (pc := 40) 3 dX11_write_40 rfl ?_
      replace hK := mm_b2s hK; obtain ⟨v41, h41, e41, hK⟩ := hK
      obtain ⟨o41, e41⟩ := cV_some e41
      refine mm_callV C (pc := 41) (d1 := 2) (As := [.int a2]) (st := []) (vk := (some (.long v41))) ((S_X10_at (by omega)) e41) tT_X10_at o41 (Or.inr ⟨_, rfl, rfl⟩) wd_1575 wd_1576 wd_1577 (by omega) (by decide) rfl (by simp [mm_crf, mm_cti, mm_ctl]) rfl dX11_write_41 ?_
      show V _ _ (.long v41 :: _) _
      cases hK
      exact mm_lret C (pc := 44) rfl dX11_write_44 rfl rfl
    · replace hK := mm_in hc hK
      refine mm_sub C [] rfl ?_
      exact w_X11_write_20 hd C _ hK
def F_X11_copy_15 : Nat → Option Nat → Option Nat → Int32 → MH → Option ((String ⊕ Int32) × MH)
  | 0 => fun _ _ _ _ => none
  | n + 1 => fun l0 l2 l3 h => mm_b2 (cV h l2 10 (F_X10_many l2 h)) fun v17 h17 => if v17 ≤ l3 then (mm_b2 (cV h17 l2 10 (F_X10_many l2 h17)) fun v49 h49 => some (.inr v49, h49)) else ((gR h17 l0 11 5).bind fun v27 => mm_b2 (cV h17 v27 0 (F_X0_minute v27 h17)) fun v30 h30 => mm_b2 (cV h30 l0 11 (F_X11_cordsInUse l0 (v30 + l3) h30)) fun v35 h35 => (cV h35 l2 10 (F_X10_put l2 l3 (v35.toInt64) h35)).bind fun h39 => F_X11_copy_15 n l0 l2 (l3 + (1 : Int32)) h39)
set_option maxRecDepth 20000 in
set_option maxHeartbeats 4000000 in
theorem w_X11_copy_15 {d : Nat} {V : Nat → List (Nat × Value) → List Value → MH → Prop} {r : String ⊕ Int32} {hz : MH} (hd : 8 ≤ d) (C : mm_C d yX11_copy cX11_copy 4 (some .int) (mm_oi r) hz V) : ∀ (n : Nat) (l0 : Option Nat) (l2 : Option Nat) (l3 : Int32) (h : MH), F_X11_copy_15 n l0 l2 l3 h = some (r, hz) → V 15 [(0, va_rf l0), (2, va_rf l2), (3, .int l3)] [] h := by
  intro n
  induction n with
  | zero => intro l0 l2 l3 h hK; cases hK
  | succ n ih =>
    intro l0 l2 l3 h hK
    replace hK : (mm_b2 (cV h l2 10 (F_X10_many l2 h)) fun v17 h17 => if v17 ≤ l3 then (mm_b2 (cV h17 l2 10 (F_X10_many l2 h17)) fun v49 h49 => some (.inr v49, h49)) else ((gR h17 l0 11 5).bind fun v27 => mm_b2 (cV h17 v27 0 (F_X0_minute v27 h17)) fun v30 h30 => mm_b2 (cV h30 l0 11 (F_X11_cordsInUse l0 (v30 + l3) h30)) fun v35 h35 => (cV h35 l2 10 (F_X10_put l2 l3 (v35.toInt64) h35)).bind fun h39 => F_X11_copy_15 n l0 l2 (l3 + (1 : Int32)) h39)) = some (r, hz) := hK
    refine mm_iload_n C (pc := 15) 2 dX11_copy_15 rfl ?_
    refine mm_aload_n C (pc := 16) 1 dX11_copy_16 rfl ?_
    replace hK := mm_b2s hK; obtain ⟨v17, h17, e17, hK⟩ := hK
    obtain ⟨o17, e17⟩ := cV_some e17
    refine mm_callV C (pc := 17) (d1 := 1) (As := []) (st := [.int l3]) (vk := (some (.int v17))) ((S_X10_many (by omega)) e17) tT_X10_many o17 (Or.inr ⟨_, rfl, rfl⟩) wd_1570 wd_1571 wd_1572 (by omega) (by decide) rfl (by simp [mm_crf, mm_cti, mm_ctl]) rfl dX11_copy_17 ?_
    show V _ _ (.int v17 :: _) _
    refine mm_icmp_ge C (pc := 20) (tgt := 48) dX11_copy_20 (by decide) (fun hc => ?_) (fun hc => ?_)
    · replace hK := mm_ip hc hK
      refine mm_aload_n C (pc := 48) 1 dX11_copy_48 rfl ?_
      replace hK := mm_b2s hK; obtain ⟨v49, h49, e49, hK⟩ := hK
      obtain ⟨o49, e49⟩ := cV_some e49
      refine mm_callV C (pc := 49) (d1 := 1) (As := []) (st := []) (vk := (some (.int v49))) ((S_X10_many (by omega)) e49) tT_X10_many o49 (Or.inr ⟨_, rfl, rfl⟩) wd_1570 wd_1571 wd_1572 (by omega) (by decide) rfl (by simp [mm_crf, mm_cti, mm_ctl]) rfl dX11_copy_49 ?_
      show V _ _ (.int v49 :: _) _
      cases hK
      exact mm_iret C (pc := 52) rfl dX11_copy_52 rfl rfl
    · replace hK := mm_in hc hK
      refine mm_aload_n C (pc := 23) 1 dX11_copy_23 rfl ?_
      refine mm_iload_n C (pc := 24) 2 dX11_copy_24 rfl ?_
      refine mm_aload_n C (pc := 25) 0 dX11_copy_25 rfl ?_
      refine mm_aload_n C (pc := 26) 0 dX11_copy_26 rfl ?_
      replace hK := mm_bd hK; obtain ⟨v27, e27, hK⟩ := hK
      refine mm_getr C (pc := 27) (k := 5) inGX11 rfl (by decide) wd_850 dX11_copy_27 e27 ?_
      replace hK := mm_b2s hK; obtain ⟨v30, h30, e30, hK⟩ := hK
      obtain ⟨o30, e30⟩ := cV_some e30
      refine mm_callV C (pc := 30) (d1 := 1) (As := []) (st := [va_rf l0, .int l3, va_rf l2]) (vk := (some (.int v30))) ((S_X0_minute (by omega)) e30) tT_X0_minute o30 (Or.inr ⟨_, rfl, rfl⟩) wd_1150 wd_937 wd_938 (by omega) (by decide) rfl (by simp [mm_crf, mm_cti, mm_ctl]) rfl dX11_copy_30 ?_
      show V _ _ (.int v30 :: _) _
      refine mm_iload_n C (pc := 33) 2 dX11_copy_33 rfl ?_
      refine mm_iadd C (pc := 34) dX11_copy_34 ?_
      replace hK := mm_b2s hK; obtain ⟨v35, h35, e35, hK⟩ := hK
      obtain ⟨o35, e35⟩ := cV_some e35
      refine mm_callV C (pc := 35) (d1 := 3) (As := [.int (v30 + l3)]) (st := [.int l3, va_rf l2]) (vk := (some (.int v35))) ((S_X11_cordsInUse (by omega)) e35) tT_X11_cordsInUse o35 (Or.inr ⟨_, rfl, rfl⟩) wd_1658 wd_1660 wd_43 (by omega) (by decide) rfl (by simp [mm_crf, mm_cti, mm_ctl]) rfl dX11_copy_35 ?_
      show V _ _ (.int v35 :: _) _
      refine mm_i2l C (pc := 38) dX11_copy_38 ?_
      replace hK := mm_bd hK; obtain ⟨h39, e39, hK⟩ := hK
      obtain ⟨o39, e39⟩ := cV_some e39
      refine mm_callV C (pc := 39) (d1 := 2) (As := [.int l3, .long (v35.toInt64)]) (st := []) (vk := none) ((S_X10_put (by omega)) e39) tT_X10_put o39 (Or.inr ⟨_, rfl, rfl⟩) wd_1954 wd_1955 wd_1956 (by omega) (by decide) rfl (by simp [mm_crf, mm_cti, mm_ctl]) rfl dX11_copy_39 ?_
      show V _ _ [] _
      refine mm_iinc C (pc := 42) (v := (l3 + (1 : Int32))) (lv' := [(3, .int (l3 + (1 : Int32))), (0, va_rf l0), (2, va_rf l2)]) 2 dX11_copy_42 rfl rfl (by decide) (by simp [mm_crf]) ?_
      refine mm_goto C (pc := 45) (tgt := 15) dX11_copy_45 (by decide) ?_
      refine mm_sub C [1, 2, 0] rfl ?_
      exact ih _ _ _ _ hK
def F_X11_copy (a0 : Option Nat) (a1 : Int32) (h : MH) : Option ((String ⊕ Int32) × MH) := mm_b3 (cV h a0 11 (F_X11_toldTray a0 a1 h)) fun v2 h2 => mm_b2 (cV h2 a0 11 (F_X11_foresee a0 (30 : Int32) h2)) fun v9 h9 => F_X11_copy_15 mm_N a0 v2 (0 : Int32) h9
set_option maxRecDepth 20000 in
set_option maxHeartbeats 4000000 in
theorem S_X11_copy {d : Nat} (hd : 8 ≤ d) {a0 : Option Nat} {a1 : Int32} {h : MH} {r : String ⊕ Int32} {hz : MH} (hK : F_X11_copy a0 a1 h = some (r, hz)) : mm_M yX11_copy cX11_copy 4 (some .int) d [va_rf a0, .int a1] h (mm_oi r) hz := by
  refine mm_ofV (by decide +kernel) (by simp [lg_sl, mm_crf, mm_cti, mm_ctl]) (fun V C => ?_)
  rw [show lv_args 0 [va_rf a0, .int a1] = [(0, va_rf a0), (1, .int a1)] by simp [lv_args, mm_crf, mm_cti, mm_ctl]]
  unfold F_X11_copy at hK
  refine mm_aload_n C (pc := 0) 0 dX11_copy_0 rfl ?_
  refine mm_iload_n C (pc := 1) 1 dX11_copy_1 rfl ?_
  replace hK := mm_b3s hK; rcases hK with ⟨E2, e2, rfl⟩ | ⟨v2, h2, e2, hK⟩
  · obtain ⟨o2, e2⟩ := cV_some e2
    exact mm_callVX C (pc := 2) (d1 := 7) (As := [.int a1]) (st := []) ((S_X11_toldTray (by omega)) e2) tT_X11_toldTray o2 (Or.inr ⟨_, rfl, rfl⟩) wd_1541 wd_1543 wd_40 (by omega) (by decide) rfl (by simp [mm_crf, mm_cti, mm_ctl]) rfl dX11_copy_2 rfl rfl
  obtain ⟨o2, e2⟩ := cV_some e2
  refine mm_callV C (pc := 2) (d1 := 7) (As := [.int a1]) (st := []) (vk := (some (va_rf v2))) ((S_X11_toldTray (by omega)) e2) tT_X11_toldTray o2 (Or.inr ⟨_, rfl, rfl⟩) wd_1541 wd_1543 wd_40 (by omega) (by decide) rfl (by simp [mm_crf, mm_cti, mm_ctl]) rfl dX11_copy_2 ?_
  show V _ _ (va_rf v2 :: _) _
  refine mm_astore_n C (pc := 5) (i := 2) (lv' := [(2, va_rf v2), (0, va_rf a0), (1, .int a1)]) dX11_copy_5 rfl (by decide) rfl ?_
  refine mm_aload_n C (pc := 6) 1 dX11_copy_6 rfl ?_
  refine mm_bipush C (pc := 7) (v := (30 : Int32)) dX11_copy_7 (by decide) ?_
  replace hK := mm_b2s hK; obtain ⟨v9, h9, e9, hK⟩ := hK
  obtain ⟨o9, e9⟩ := cV_some e9
  refine mm_callV C (pc := 9) (d1 := 6) (As := [.int (30 : Int32)]) (st := []) (vk := (some (.int v9))) ((S_X11_foresee (by omega)) e9) tT_X11_foresee o9 (Or.inr ⟨_, rfl, rfl⟩) wd_972 wd_974 wd_7 (by omega) (by decide) rfl (by simp [mm_crf, mm_cti, mm_ctl]) rfl dX11_copy_9 ?_
  show V _ _ (.int v9 :: _) _
  refine mm_pop C (pc := 12) dX11_copy_12 rfl ?_
  refine mm_iconst C (pc := 13) (v := (0 : Int32)) dX11_copy_13 (by decide) ?_
  refine mm_istore_n C (pc := 14) (i := 3) (lv' := [(3, .int (0 : Int32)), (2, va_rf v2), (0, va_rf a0), (1, .int a1)]) dX11_copy_14 rfl (by decide) (by simp [mm_crf]) ?_
  refine mm_sub C [2, 1, 0] rfl ?_
  exact w_X11_copy_15 hd C _ _ _ _ _ hK
def F_X11_needImage_9 (h : MH) : Option ((String ⊕ Unit) × MH) := (tH h).bind fun h9 => some (.inl "java/util/NoSuchElementException", h9)
set_option maxRecDepth 20000 in
set_option maxHeartbeats 4000000 in
theorem w_X11_needImage_9 {d : Nat} {V : Nat → List (Nat × Value) → List Value → MH → Prop} {r : String ⊕ Unit} {hz : MH} (hd : 6 ≤ d) (C : mm_C d yX11_needImage cX11_needImage 1 none (mm_ov r) hz V) (h : MH) (hK : F_X11_needImage_9  h = some (r, hz)) : V 9 [] [] h := by
  unfold F_X11_needImage_9 at hK
  replace hK := mm_bd hK; obtain ⟨h9, e9, hK⟩ := hK
  cases hK
  exact mm_throwNW C (pc := 9) (i := 32) tW_X11_153_157 (by rfl) dX11_needImage_9 dX11_needImage_12 dX11_needImage_13 dX11_needImage_16 dX11_needImage_19 (by omega) (by simp [mm_crf, mm_cti, mm_ctl]) rfl e9
def F_X11_needImage (a0 : Int32) (h : MH) : Option ((String ⊕ Unit) × MH) := if a0 < 0 then (F_X11_needImage_9 h) else (if a0 < (3 : Int32) then (some (.inr (), h)) else (F_X11_needImage_9 h))
set_option maxRecDepth 20000 in
set_option maxHeartbeats 4000000 in
theorem S_X11_needImage {d : Nat} (hd : 6 ≤ d) {a0 : Int32} {h : MH} {r : String ⊕ Unit} {hz : MH} (hK : F_X11_needImage a0 h = some (r, hz)) : mm_M yX11_needImage cX11_needImage 1 none d [.int a0] h (mm_ov r) hz := by
  refine mm_ofV (by decide +kernel) (by simp [lg_sl, mm_crf, mm_cti, mm_ctl]) (fun V C => ?_)
  rw [show lv_args 0 [.int a0] = [(0, .int a0)] by simp [lv_args, mm_crf, mm_cti, mm_ctl]]
  unfold F_X11_needImage at hK
  refine mm_iload_n C (pc := 0) 0 dX11_needImage_0 rfl ?_
  refine mm_if_lt C (pc := 1) (tgt := 9) dX11_needImage_1 (by decide) (fun hc => ?_) (fun hc => ?_)
  · replace hK := mm_ip hc hK
    refine mm_sub C [] rfl ?_
    exact w_X11_needImage_9 hd C _ hK
  · replace hK := mm_in hc hK
    refine mm_iload_n C (pc := 4) 0 dX11_needImage_4 rfl ?_
    refine mm_iconst C (pc := 5) (v := (3 : Int32)) dX11_needImage_5 (by decide) ?_
    refine mm_icmp_lt C (pc := 6) (tgt := 20) dX11_needImage_6 (by decide) (fun hc => ?_) (fun hc => ?_)
    · replace hK := mm_ip hc hK
      cases hK
      exact mm_vret C (pc := 20) rfl dX11_needImage_20 rfl rfl
    · replace hK := mm_in hc hK
      refine mm_sub C [] rfl ?_
      exact w_X11_needImage_9 hd C _ hK
theorem wd_1984 : Cond.methodLink RX3 43 arraycopyName ∈ lw_good := mm_wd 1984 (by decide +kernel) (by decide +kernel)
def F_X3_become (a0 : Option Nat) (a1 : Option Nat) (h : MH) : Option MH := (gR h a1 3 0).bind fun v1 => (gR h a0 3 0).bind fun v6 => (gR h a0 3 0).bind fun v11 => (aNt h v11 0).bind fun v14 => (cpI h v1 (0 : Int32) v6 (0 : Int32) v14).bind fun h15 => (gI h15 a1 3 1).bind fun v20 => (pI h15 a0 3 1 v20).bind fun h23 => (gI h23 a1 3 2).bind fun v28 => (pI h23 a0 3 2 v28).bind fun h31 => some h31
set_option maxRecDepth 20000 in
set_option maxHeartbeats 4000000 in
theorem S_X3_become {d : Nat} (hd : 1 ≤ d) {a0 : Option Nat} {a1 : Option Nat} {h : MH} {hz : MH} (hK : F_X3_become a0 a1 h = some hz) : mm_M yX3_become cX3_become 2 none d [va_rf a0, va_rf a1] h (.inr none) hz := by
  refine mm_ofV (by decide +kernel) (by simp [lg_sl, mm_crf, mm_cti, mm_ctl]) (fun V C => ?_)
  rw [show lv_args 0 [va_rf a0, va_rf a1] = [(0, va_rf a0), (1, va_rf a1)] by simp [lv_args, mm_crf, mm_cti, mm_ctl]]
  unfold F_X3_become at hK
  refine mm_aload_n C (pc := 0) 1 dX3_become_0 rfl ?_
  replace hK := mm_bd hK; obtain ⟨v1, e1, hK⟩ := hK
  refine mm_getr C (pc := 1) (k := 0) inGX3 rfl (by decide) wd_189 dX3_become_1 e1 ?_
  refine mm_iconst C (pc := 4) (v := (0 : Int32)) dX3_become_4 (by decide) ?_
  refine mm_aload_n C (pc := 5) 0 dX3_become_5 rfl ?_
  replace hK := mm_bd hK; obtain ⟨v6, e6, hK⟩ := hK
  refine mm_getr C (pc := 6) (k := 0) inGX3 rfl (by decide) wd_189 dX3_become_6 e6 ?_
  refine mm_iconst C (pc := 9) (v := (0 : Int32)) dX3_become_9 (by decide) ?_
  refine mm_aload_n C (pc := 10) 0 dX3_become_10 rfl ?_
  replace hK := mm_bd hK; obtain ⟨v11, e11, hK⟩ := hK
  refine mm_getr C (pc := 11) (k := 0) inGX3 rfl (by decide) wd_189 dX3_become_11 e11 ?_
  replace hK := mm_bd hK; obtain ⟨v14, e14, hK⟩ := hK
  refine mm_alenI C (pc := 14) dX3_become_14 e14 ?_
  replace hK := mm_bd hK; obtain ⟨h15, e15, hK⟩ := hK
  refine mm_copy C (pc := 15) wd_1984 wd_554 wd_553 wd_166 (by omega) (by simp [mm_crf, mm_cti, mm_ctl]) dX3_become_15 e15 ?_
  refine mm_aload_n C (pc := 18) 0 dX3_become_18 rfl ?_
  refine mm_aload_n C (pc := 19) 1 dX3_become_19 rfl ?_
  replace hK := mm_bd hK; obtain ⟨v20, e20, hK⟩ := hK
  refine mm_geti C (pc := 20) (k := 1) inGX3 rfl (by decide) wd_190 dX3_become_20 e20 ?_
  replace hK := mm_bd hK; obtain ⟨h23, e23, hK⟩ := hK
  refine mm_puti C (pc := 23) (k := 1) false (fun z => by cases z) inGX3 tyX3 tyX3_ok nmX3 rfl (by decide) wd_190 rfl rfl dX3_become_23 e23 ?_
  refine mm_aload_n C (pc := 26) 0 dX3_become_26 rfl ?_
  refine mm_aload_n C (pc := 27) 1 dX3_become_27 rfl ?_
  replace hK := mm_bd hK; obtain ⟨v28, e28, hK⟩ := hK
  refine mm_geti C (pc := 28) (k := 2) inGX3 rfl (by decide) wd_191 dX3_become_28 e28 ?_
  replace hK := mm_bd hK; obtain ⟨h31, e31, hK⟩ := hK
  refine mm_puti C (pc := 31) (k := 2) false (fun z => by cases z) inGX3 tyX3 tyX3_ok nmX3 rfl (by decide) wd_191 rfl rfl dX3_become_31 e31 ?_
  cases hK
  exact mm_vret C (pc := 34) rfl dX3_become_34 rfl rfl
theorem wd_1978 : Cond.code yX11_needImage cX11_needImage 1 none ∈ lw_good := mm_wd 1978 (by decide +kernel) (by decide +kernel)
theorem tT_X11_needImage : mm_T yX11_needImage cX11_needImage 1 none 1 := ⟨wd_1978, wd_142, by decide +kernel, by decide +kernel, by decide +kernel, by decide +kernel⟩
theorem wd_1976 : Cond.methodLink RX11 407 yX11_needImage ∈ lw_good := mm_wd 1976 (by decide +kernel) (by decide +kernel)
theorem wd_1977 : Cond.static yX11_needImage ∈ lw_good := mm_wd 1977 (by decide +kernel) (by decide +kernel)
theorem wd_1983 : Cond.code yX3_become cX3_become 2 none ∈ lw_good := mm_wd 1983 (by decide +kernel) (by decide +kernel)
theorem tT_X3_become : mm_T yX3_become cX3_become 2 none 1 := ⟨wd_1983, wd_143, by decide +kernel, by decide +kernel, by decide +kernel, by decide +kernel⟩
theorem wd_1980 : Cond.methodLink RX11 410 yX3_become ∈ lw_good := mm_wd 1980 (by decide +kernel) (by decide +kernel)
theorem wd_1981 : Cond.instanceMethod yX3_become ∈ lw_good := mm_wd 1981 (by decide +kernel) (by decide +kernel)
theorem wd_1982 : Cond.selects RX3 yX3_become yX3_become ∈ lw_good := mm_wd 1982 (by decide +kernel) (by decide +kernel)
def F_X11_image_55 (l0 : Option Nat) (l1 : Int32) (h : MH) : Option ((String ⊕ Unit) × MH) := (gR h l0 11 8).bind fun v56 => (aR h v56 5 l1).bind fun v60 => (gR h l0 11 5).bind fun v62 => (cV h v60 0 (F_X0_become v60 v62 h)).bind fun h65 => (gR h65 l0 11 9).bind fun v69 => (aR h65 v69 6 l1).bind fun v73 => (gR h65 l0 11 6).bind fun v75 => (cV h65 v73 3 (F_X3_become v73 v75 h65)).bind fun h78 => some (.inr (), h78)
set_option maxRecDepth 20000 in
set_option maxHeartbeats 4000000 in
theorem w_X11_image_55 {d : Nat} {V : Nat → List (Nat × Value) → List Value → MH → Prop} {r : String ⊕ Unit} {hz : MH} (hd : 7 ≤ d) (C : mm_C d yX11_image cX11_image 2 none (mm_ov r) hz V) (l0 : Option Nat) (l1 : Int32) (h : MH) (hK : F_X11_image_55 l0 l1 h = some (r, hz)) : V 55 [(0, va_rf l0), (1, .int l1)] [] h := by
  unfold F_X11_image_55 at hK
  refine mm_aload_n C (pc := 55) 0 dX11_image_55 rfl ?_
  replace hK := mm_bd hK; obtain ⟨v56, e56, hK⟩ := hK
  refine mm_getr C (pc := 56) (k := 8) inGX11 rfl (by decide) wd_853 dX11_image_56 e56 ?_
  refine mm_iload_n C (pc := 59) 1 dX11_image_59 rfl ?_
  replace hK := mm_bd hK; obtain ⟨v60, e60, hK⟩ := hK
  refine mm_aald C (pc := 60) (fun _ => rfl) ⟨by decide, by decide⟩ dX11_image_60 e60 ?_
  refine mm_aload_n C (pc := 61) 0 dX11_image_61 rfl ?_
  replace hK := mm_bd hK; obtain ⟨v62, e62, hK⟩ := hK
  refine mm_getr C (pc := 62) (k := 5) inGX11 rfl (by decide) wd_850 dX11_image_62 e62 ?_
  replace hK := mm_bd hK; obtain ⟨h65, e65, hK⟩ := hK
  obtain ⟨o65, e65⟩ := cV_some e65
  refine mm_callV C (pc := 65) (d1 := 1) (As := [va_rf v62]) (st := []) (vk := none) ((S_X0_become (by omega)) e65) tT_X0_become o65 (Or.inr ⟨_, rfl, rfl⟩) wd_976 wd_977 wd_978 (by omega) (by decide) rfl (by simp [mm_crf, mm_cti, mm_ctl]) rfl dX11_image_65 ?_
  show V _ _ [] _
  refine mm_aload_n C (pc := 68) 0 dX11_image_68 rfl ?_
  replace hK := mm_bd hK; obtain ⟨v69, e69, hK⟩ := hK
  refine mm_getr C (pc := 69) (k := 9) inGX11 rfl (by decide) wd_854 dX11_image_69 e69 ?_
  refine mm_iload_n C (pc := 72) 1 dX11_image_72 rfl ?_
  replace hK := mm_bd hK; obtain ⟨v73, e73, hK⟩ := hK
  refine mm_aald C (pc := 73) (fun _ => rfl) ⟨by decide, by decide⟩ dX11_image_73 e73 ?_
  refine mm_aload_n C (pc := 74) 0 dX11_image_74 rfl ?_
  replace hK := mm_bd hK; obtain ⟨v75, e75, hK⟩ := hK
  refine mm_getr C (pc := 75) (k := 6) inGX11 rfl (by decide) wd_851 dX11_image_75 e75 ?_
  replace hK := mm_bd hK; obtain ⟨h78, e78, hK⟩ := hK
  obtain ⟨o78, e78⟩ := cV_some e78
  refine mm_callV C (pc := 78) (d1 := 1) (As := [va_rf v75]) (st := []) (vk := none) ((S_X3_become (by omega)) e78) tT_X3_become o78 (Or.inr ⟨_, rfl, rfl⟩) wd_1980 wd_1981 wd_1982 (by omega) (by decide) rfl (by simp [mm_crf, mm_cti, mm_ctl]) rfl dX11_image_78 ?_
  show V _ _ [] _
  cases hK
  exact mm_vret C (pc := 81) rfl dX11_image_81 rfl rfl
def F_X11_image_22 (l0 : Option Nat) (l1 : Int32) (h : MH) : Option ((String ⊕ Unit) × MH) := (gR h l0 11 8).bind fun v23 => mm_b2 (nO h 0 [.null, .null, .null] 3) fun v27 h27 => (gR h27 l0 11 5).bind fun v32 => (gR h27 v32 0 2).bind fun v35 => v27.bind fun b38 => (F_X0_init (some b38) v35 h27).bind fun h38 => (sR h38 v23 5 0 l1 (some b38)).bind fun h41 => (gR h41 l0 11 9).bind fun v43 => mm_b2 (nO h41 3 [.null, .int 0, .int 0] 3) fun v47 h47 => v47.bind fun b51 => (F_X3_init (some b51) h47).bind fun h51 => (sR h51 v43 6 3 l1 (some b51)).bind fun h54 => F_X11_image_55 l0 l1 h54
set_option maxRecDepth 20000 in
set_option maxHeartbeats 4000000 in
theorem w_X11_image_22 {d : Nat} {V : Nat → List (Nat × Value) → List Value → MH → Prop} {r : String ⊕ Unit} {hz : MH} (hd : 7 ≤ d) (C : mm_C d yX11_image cX11_image 2 none (mm_ov r) hz V) (l0 : Option Nat) (l1 : Int32) (h : MH) (hK : F_X11_image_22 l0 l1 h = some (r, hz)) : V 22 [(0, va_rf l0), (1, .int l1)] [] h := by
  unfold F_X11_image_22 at hK
  refine mm_aload_n C (pc := 22) 0 dX11_image_22 rfl ?_
  replace hK := mm_bd hK; obtain ⟨v23, e23, hK⟩ := hK
  refine mm_getr C (pc := 23) (k := 8) inGX11 rfl (by decide) wd_853 dX11_image_23 e23 ?_
  refine mm_iload_n C (pc := 26) 1 dX11_image_26 rfl ?_
  replace hK := mm_b2s hK; obtain ⟨v27, h27, e27, hK⟩ := hK
  refine mm_new C (pc := 27) inGX0 tyX0 tyX0_ok rfl wd_201 wd_397 wd_150 (mm_dv (by decide)) (fun _ => rfl) dX11_image_27 e27 ?_
  refine mm_dup C (pc := 30) dX11_image_30 mm_crf ?_
  refine mm_aload_n C (pc := 31) 0 dX11_image_31 rfl ?_
  replace hK := mm_bd hK; obtain ⟨v32, e32, hK⟩ := hK
  refine mm_getr C (pc := 32) (k := 5) inGX11 rfl (by decide) wd_850 dX11_image_32 e32 ?_
  replace hK := mm_bd hK; obtain ⟨v35, e35, hK⟩ := hK
  refine mm_getr C (pc := 35) (k := 2) inGX0 rfl (by decide) wd_819 dX11_image_35 e35 ?_
  replace hK := mm_bd hK; obtain ⟨b38, e38, hK⟩ := hK
  subst e38
  replace hK := mm_bd hK; obtain ⟨h38, f38, hK⟩ := hK
  refine mm_callI C (pc := 38) (d1 := 3) (As := [va_rf v35]) (st := [va_rf (some b38), .int l1, va_rf v23]) false ((S_X0_init (by omega)) f38) tT_X0_init rfl wd_803 wd_804 (by omega) (by decide) rfl (by simp [mm_crf, mm_cti, mm_ctl]) rfl dX11_image_38 ?_
  replace hK := mm_bd hK; obtain ⟨h41, e41, hK⟩ := hK
  refine mm_aast C (pc := 41) (q9 := (RX0, TX0, 3)) (fun _ => rfl) ⟨by decide, by decide⟩ (by decide) rfl dX11_image_41 e41 ?_
  refine mm_aload_n C (pc := 42) 0 dX11_image_42 rfl ?_
  replace hK := mm_bd hK; obtain ⟨v43, e43, hK⟩ := hK
  refine mm_getr C (pc := 43) (k := 9) inGX11 rfl (by decide) wd_854 dX11_image_43 e43 ?_
  refine mm_iload_n C (pc := 46) 1 dX11_image_46 rfl ?_
  replace hK := mm_b2s hK; obtain ⟨v47, h47, e47, hK⟩ := hK
  refine mm_new C (pc := 47) inGX3 tyX3 tyX3_ok rfl wd_183 wd_184 wd_143 (mm_dv (by decide)) (fun _ => rfl) dX11_image_47 e47 ?_
  refine mm_dup C (pc := 50) dX11_image_50 mm_crf ?_
  replace hK := mm_bd hK; obtain ⟨b51, e51, hK⟩ := hK
  subst e51
  replace hK := mm_bd hK; obtain ⟨h51, f51, hK⟩ := hK
  refine mm_callI C (pc := 51) (d1 := 1) (As := []) (st := [va_rf (some b51), .int l1, va_rf v43]) true ((S_X3_init (by omega)) f51) tT_X3_init rfl wd_185 wd_186 (by omega) (by decide) rfl (by simp [mm_crf, mm_cti, mm_ctl]) rfl dX11_image_51 ?_
  replace hK := mm_bd hK; obtain ⟨h54, e54, hK⟩ := hK
  refine mm_aast C (pc := 54) (q9 := (RX3, TX3, 3)) (fun _ => rfl) ⟨by decide, by decide⟩ (by decide) rfl dX11_image_54 e54 ?_
  exact w_X11_image_55 hd C _ _ _ hK
def F_X11_image (a0 : Option Nat) (a1 : Int32) (h : MH) : Option ((String ⊕ Unit) × MH) := mm_b3 (F_X11_needImage a1 h) fun _ h1 => (gR h1 a0 11 8).bind fun v5 => (aR h1 v5 5 a1).bind fun v9 => if v9 = none then (F_X11_image_22 a0 a1 h1) else ((gR h1 a0 11 9).bind fun v14 => (aR h1 v14 6 a1).bind fun v18 => if v18 = none then (F_X11_image_22 a0 a1 h1) else (F_X11_image_55 a0 a1 h1))
set_option maxRecDepth 20000 in
set_option maxHeartbeats 4000000 in
theorem S_X11_image {d : Nat} (hd : 7 ≤ d) {a0 : Option Nat} {a1 : Int32} {h : MH} {r : String ⊕ Unit} {hz : MH} (hK : F_X11_image a0 a1 h = some (r, hz)) : mm_M yX11_image cX11_image 2 none d [va_rf a0, .int a1] h (mm_ov r) hz := by
  refine mm_ofV (by decide +kernel) (by simp [lg_sl, mm_crf, mm_cti, mm_ctl]) (fun V C => ?_)
  rw [show lv_args 0 [va_rf a0, .int a1] = [(0, va_rf a0), (1, .int a1)] by simp [lv_args, mm_crf, mm_cti, mm_ctl]]
  unfold F_X11_image at hK
  refine mm_iload_n C (pc := 0) 1 dX11_image_0 rfl ?_
  replace hK := mm_b3s hK; rcases hK with ⟨E1, e1, rfl⟩ | ⟨v1, h1, e1, hK⟩
  · skip
    exact mm_callSX C (pc := 1) (d1 := 6) (As := [.int a1]) (st := []) ((S_X11_needImage (by omega)) e1) tT_X11_needImage wd_1976 wd_1977 (by omega) (by decide) rfl (by simp [mm_crf, mm_cti, mm_ctl]) rfl dX11_image_1 rfl rfl
  refine mm_callS C (pc := 1) (d1 := 6) (As := [.int a1]) (st := []) (vk := none) ((S_X11_needImage (by omega)) e1) tT_X11_needImage wd_1976 wd_1977 (by omega) (by decide) rfl (by simp [mm_crf, mm_cti, mm_ctl]) rfl dX11_image_1 ?_
  show V _ _ [] _
  refine mm_aload_n C (pc := 4) 0 dX11_image_4 rfl ?_
  replace hK := mm_bd hK; obtain ⟨v5, e5, hK⟩ := hK
  refine mm_getr C (pc := 5) (k := 8) inGX11 rfl (by decide) wd_853 dX11_image_5 e5 ?_
  refine mm_iload_n C (pc := 8) 1 dX11_image_8 rfl ?_
  replace hK := mm_bd hK; obtain ⟨v9, e9, hK⟩ := hK
  refine mm_aald C (pc := 9) (fun _ => rfl) ⟨by decide, by decide⟩ dX11_image_9 e9 ?_
  refine mm_ifnull C (pc := 10) (tgt := 22) dX11_image_10 (by decide) (fun hc => ?_) (fun hc => ?_)
  · replace hK := mm_ip hc hK
    exact w_X11_image_22 hd C _ _ _ hK
  · replace hK := mm_in hc hK
    refine mm_aload_n C (pc := 13) 0 dX11_image_13 rfl ?_
    replace hK := mm_bd hK; obtain ⟨v14, e14, hK⟩ := hK
    refine mm_getr C (pc := 14) (k := 9) inGX11 rfl (by decide) wd_854 dX11_image_14 e14 ?_
    refine mm_iload_n C (pc := 17) 1 dX11_image_17 rfl ?_
    replace hK := mm_bd hK; obtain ⟨v18, e18, hK⟩ := hK
    refine mm_aald C (pc := 18) (fun _ => rfl) ⟨by decide, by decide⟩ dX11_image_18 e18 ?_
    refine mm_ifnonnull C (pc := 19) (tgt := 55) dX11_image_19 (by decide) (fun hc => ?_) (fun hc => ?_)
    · replace hK := mm_in hc hK
      exact w_X11_image_55 hd C _ _ _ hK
    · replace hK := mm_ip hc hK
      exact w_X11_image_22 hd C _ _ _ hK
def F_X11_restore_22 (h : MH) : Option ((String ⊕ Unit) × MH) := (tH h).bind fun h22 => some (.inl "java/lang/IllegalStateException", h22)
set_option maxRecDepth 20000 in
set_option maxHeartbeats 4000000 in
theorem w_X11_restore_22 {d : Nat} {V : Nat → List (Nat × Value) → List Value → MH → Prop} {r : String ⊕ Unit} {hz : MH} (hd : 7 ≤ d) (C : mm_C d yX11_restore cX11_restore 2 none (mm_ov r) hz V) (h : MH) (hK : F_X11_restore_22  h = some (r, hz)) : V 22 [] [] h := by
  unfold F_X11_restore_22 at hK
  replace hK := mm_bd hK; obtain ⟨h22, e22, hK⟩ := hK
  cases hK
  exact mm_throwW C (pc := 22) (i := 33) tW_X11_413_417 (by rfl) dX11_restore_22 dX11_restore_25 dX11_restore_26 dX11_restore_29 dX11_restore_32 (by omega) (by simp [mm_crf, mm_cti, mm_ctl]) rfl e22
def F_X11_restore (a0 : Option Nat) (a1 : Int32) (h : MH) : Option ((String ⊕ Unit) × MH) := mm_b3 (F_X11_needImage a1 h) fun _ h1 => (gR h1 a0 11 8).bind fun v5 => (aR h1 v5 5 a1).bind fun v9 => if v9 = none then (F_X11_restore_22 h1) else ((gR h1 a0 11 9).bind fun v14 => (aR h1 v14 6 a1).bind fun v18 => if v18 = none then (F_X11_restore_22 h1) else ((gR h1 a0 11 5).bind fun v34 => (gR h1 a0 11 8).bind fun v38 => (aR h1 v38 5 a1).bind fun v42 => (cV h1 v34 0 (F_X0_become v34 v42 h1)).bind fun h43 => (gR h43 a0 11 6).bind fun v47 => (gR h43 a0 11 9).bind fun v51 => (aR h43 v51 6 a1).bind fun v55 => (cV h43 v47 3 (F_X3_become v47 v55 h43)).bind fun h56 => some (.inr (), h56)))
set_option maxRecDepth 20000 in
set_option maxHeartbeats 4000000 in
theorem S_X11_restore {d : Nat} (hd : 7 ≤ d) {a0 : Option Nat} {a1 : Int32} {h : MH} {r : String ⊕ Unit} {hz : MH} (hK : F_X11_restore a0 a1 h = some (r, hz)) : mm_M yX11_restore cX11_restore 2 none d [va_rf a0, .int a1] h (mm_ov r) hz := by
  refine mm_ofV (by decide +kernel) (by simp [lg_sl, mm_crf, mm_cti, mm_ctl]) (fun V C => ?_)
  rw [show lv_args 0 [va_rf a0, .int a1] = [(0, va_rf a0), (1, .int a1)] by simp [lv_args, mm_crf, mm_cti, mm_ctl]]
  unfold F_X11_restore at hK
  refine mm_iload_n C (pc := 0) 1 dX11_restore_0 rfl ?_
  replace hK := mm_b3s hK; rcases hK with ⟨E1, e1, rfl⟩ | ⟨v1, h1, e1, hK⟩
  · skip
    exact mm_callSX C (pc := 1) (d1 := 6) (As := [.int a1]) (st := []) ((S_X11_needImage (by omega)) e1) tT_X11_needImage wd_1976 wd_1977 (by omega) (by decide) rfl (by simp [mm_crf, mm_cti, mm_ctl]) rfl dX11_restore_1 rfl rfl
  refine mm_callS C (pc := 1) (d1 := 6) (As := [.int a1]) (st := []) (vk := none) ((S_X11_needImage (by omega)) e1) tT_X11_needImage wd_1976 wd_1977 (by omega) (by decide) rfl (by simp [mm_crf, mm_cti, mm_ctl]) rfl dX11_restore_1 ?_
  show V _ _ [] _
  refine mm_aload_n C (pc := 4) 0 dX11_restore_4 rfl ?_
  replace hK := mm_bd hK; obtain ⟨v5, e5, hK⟩ := hK
  refine mm_getr C (pc := 5) (k := 8) inGX11 rfl (by decide) wd_853 dX11_restore_5 e5 ?_
  refine mm_iload_n C (pc := 8) 1 dX11_restore_8 rfl ?_
  replace hK := mm_bd hK; obtain ⟨v9, e9, hK⟩ := hK
  refine mm_aald C (pc := 9) (fun _ => rfl) ⟨by decide, by decide⟩ dX11_restore_9 e9 ?_
  refine mm_ifnull C (pc := 10) (tgt := 22) dX11_restore_10 (by decide) (fun hc => ?_) (fun hc => ?_)
  · replace hK := mm_ip hc hK
    refine mm_sub C [] rfl ?_
    exact w_X11_restore_22 hd C _ hK
  · replace hK := mm_in hc hK
    refine mm_aload_n C (pc := 13) 0 dX11_restore_13 rfl ?_
    replace hK := mm_bd hK; obtain ⟨v14, e14, hK⟩ := hK
    refine mm_getr C (pc := 14) (k := 9) inGX11 rfl (by decide) wd_854 dX11_restore_14 e14 ?_
    refine mm_iload_n C (pc := 17) 1 dX11_restore_17 rfl ?_
    replace hK := mm_bd hK; obtain ⟨v18, e18, hK⟩ := hK
    refine mm_aald C (pc := 18) (fun _ => rfl) ⟨by decide, by decide⟩ dX11_restore_18 e18 ?_
    refine mm_ifnonnull C (pc := 19) (tgt := 33) dX11_restore_19 (by decide) (fun hc => ?_) (fun hc => ?_)
    · replace hK := mm_in hc hK
      refine mm_aload_n C (pc := 33) 0 dX11_restore_33 rfl ?_
      replace hK := mm_bd hK; obtain ⟨v34, e34, hK⟩ := hK
      refine mm_getr C (pc := 34) (k := 5) inGX11 rfl (by decide) wd_850 dX11_restore_34 e34 ?_
      refine mm_aload_n C (pc := 37) 0 dX11_restore_37 rfl ?_
      replace hK := mm_bd hK; obtain ⟨v38, e38, hK⟩ := hK
      refine mm_getr C (pc := 38) (k := 8) inGX11 rfl (by decide) wd_853 dX11_restore_38 e38 ?_
      refine mm_iload_n C (pc := 41) 1 dX11_restore_41 rfl ?_
      replace hK := mm_bd hK; obtain ⟨v42, e42, hK⟩ := hK
      refine mm_aald C (pc := 42) (fun _ => rfl) ⟨by decide, by decide⟩ dX11_restore_42 e42 ?_
      replace hK := mm_bd hK; obtain ⟨h43, e43, hK⟩ := hK
      obtain ⟨o43, e43⟩ := cV_some e43
      refine mm_callV C (pc := 43) (d1 := 1) (As := [va_rf v42]) (st := []) (vk := none) ((S_X0_become (by omega)) e43) tT_X0_become o43 (Or.inr ⟨_, rfl, rfl⟩) wd_976 wd_977 wd_978 (by omega) (by decide) rfl (by simp [mm_crf, mm_cti, mm_ctl]) rfl dX11_restore_43 ?_
      show V _ _ [] _
      refine mm_aload_n C (pc := 46) 0 dX11_restore_46 rfl ?_
      replace hK := mm_bd hK; obtain ⟨v47, e47, hK⟩ := hK
      refine mm_getr C (pc := 47) (k := 6) inGX11 rfl (by decide) wd_851 dX11_restore_47 e47 ?_
      refine mm_aload_n C (pc := 50) 0 dX11_restore_50 rfl ?_
      replace hK := mm_bd hK; obtain ⟨v51, e51, hK⟩ := hK
      refine mm_getr C (pc := 51) (k := 9) inGX11 rfl (by decide) wd_854 dX11_restore_51 e51 ?_
      refine mm_iload_n C (pc := 54) 1 dX11_restore_54 rfl ?_
      replace hK := mm_bd hK; obtain ⟨v55, e55, hK⟩ := hK
      refine mm_aald C (pc := 55) (fun _ => rfl) ⟨by decide, by decide⟩ dX11_restore_55 e55 ?_
      replace hK := mm_bd hK; obtain ⟨h56, e56, hK⟩ := hK
      obtain ⟨o56, e56⟩ := cV_some e56
      refine mm_callV C (pc := 56) (d1 := 1) (As := [va_rf v55]) (st := []) (vk := none) ((S_X3_become (by omega)) e56) tT_X3_become o56 (Or.inr ⟨_, rfl, rfl⟩) wd_1980 wd_1981 wd_1982 (by omega) (by decide) rfl (by simp [mm_crf, mm_cti, mm_ctl]) rfl dX11_restore_56 ?_
      show V _ _ [] _
      cases hK
      exact mm_vret C (pc := 59) rfl dX11_restore_59 rfl rfl
    · replace hK := mm_ip hc hK
      refine mm_sub C [] rfl ?_
      exact w_X11_restore_22 hd C _ hK
def F_X11_count (a0 : Option Nat) (a1 : Int32) (h : MH) : Option (Int32 × MH) := if a1 = (0 : Int32) then ((gR h a0 11 5).bind fun v65 => (gR h v65 0 2).bind fun v68 => (gI h v68 8 2).bind fun v71 => some (v71, h)) else if a1 = (1 : Int32) then ((gR h a0 11 5).bind fun v76 => (gR h v76 0 2).bind fun v79 => (gI h v79 8 0).bind fun v82 => some (v82, h)) else if a1 = (2 : Int32) then ((gR h a0 11 5).bind fun v87 => (gR h v87 0 2).bind fun v90 => (gI h v90 8 1).bind fun v93 => some (v93, h)) else if a1 = (3 : Int32) then ((gR h a0 11 5).bind fun v98 => mm_b2 (cV h v98 0 (F_X0_calls v98 h)) fun v101 h101 => some (v101, h101)) else if a1 = (4 : Int32) then ((gR h a0 11 5).bind fun v106 => mm_b2 (cV h v106 0 (F_X0_tally v106 (a1 - (4 : Int32)) h)) fun v112 h112 => some (v112, h112)) else if a1 = (5 : Int32) then ((gR h a0 11 5).bind fun v106 => mm_b2 (cV h v106 0 (F_X0_tally v106 (a1 - (4 : Int32)) h)) fun v112 h112 => some (v112, h112)) else if a1 = (6 : Int32) then ((gR h a0 11 5).bind fun v106 => mm_b2 (cV h v106 0 (F_X0_tally v106 (a1 - (4 : Int32)) h)) fun v112 h112 => some (v112, h112)) else if a1 = (7 : Int32) then ((gR h a0 11 5).bind fun v106 => mm_b2 (cV h v106 0 (F_X0_tally v106 (a1 - (4 : Int32)) h)) fun v112 h112 => some (v112, h112)) else if a1 = (8 : Int32) then ((gR h a0 11 5).bind fun v117 => mm_b2 (cV h v117 0 (F_X0_twosMarried v117 h)) fun v120 h120 => some (v120, h120)) else if a1 = (9 : Int32) then ((gR h a0 11 5).bind fun v125 => mm_b2 (cV h v125 0 (F_X0_minute v125 h)) fun v128 h128 => some (v128, h128)) else if a1 = (10 : Int32) then ((gR h a0 11 6).bind fun v133 => mm_b2 (cV h v133 3 (F_X3_many v133 h)) fun v136 h136 => some (v136, h136)) else if a1 = (11 : Int32) then ((gI h a0 11 1).bind fun v141 => some (v141, h)) else (some (((-1) : Int32), h))
set_option maxRecDepth 20000 in
set_option maxHeartbeats 4000000 in
theorem S_X11_count {d : Nat} (hd : 4 ≤ d) {a0 : Option Nat} {a1 : Int32} {h : MH} {r : Int32} {hz : MH} (hK : F_X11_count a0 a1 h = some (r, hz)) : mm_M yX11_count cX11_count 2 (some .int) d [va_rf a0, .int a1] h (.inr (some (.int r))) hz := by
  refine mm_ofV (by decide +kernel) (by simp [lg_sl, mm_crf, mm_cti, mm_ctl]) (fun V C => ?_)
  rw [show lv_args 0 [va_rf a0, .int a1] = [(0, va_rf a0), (1, .int a1)] by simp [lv_args, mm_crf, mm_cti, mm_ctl]]
  unfold F_X11_count at hK
  refine mm_iload_n C (pc := 0) 1 dX11_count_0 rfl ?_
  by_cases hc1_0 : a1 = (0 : Int32)
  · replace hK := mm_ip hc1_0 hK
    refine mm_tableIn C (pc := 1) (tgt := 64) (off := 63) dX11_count_1 (by rw [hc1_0]; decide) (by rw [hc1_0]; decide) (by rw [hc1_0]; rfl) (by decide) ?_
    refine mm_aload_n C (pc := 64) 0 dX11_count_64 rfl ?_
    replace hK := mm_bd hK; obtain ⟨v65, e65, hK⟩ := hK
    refine mm_getr C (pc := 65) (k := 5) inGX11 rfl (by decide) wd_850 dX11_count_65 e65 ?_
    replace hK := mm_bd hK; obtain ⟨v68, e68, hK⟩ := hK
    refine mm_getr C (pc := 68) (k := 2) inGX0 rfl (by decide) wd_819 dX11_count_68 e68 ?_
    replace hK := mm_bd hK; obtain ⟨v71, e71, hK⟩ := hK
    refine mm_geti C (pc := 71) (k := 2) inGX8 rfl (by decide) wd_782 dX11_count_71 e71 ?_
    cases hK
    exact mm_iret C (pc := 74) rfl dX11_count_74 rfl rfl
  replace hK := mm_in hc1_0 hK
  by_cases hc1_1 : a1 = (1 : Int32)
  · replace hK := mm_ip hc1_1 hK
    refine mm_tableIn C (pc := 1) (tgt := 75) (off := 74) dX11_count_1 (by rw [hc1_1]; decide) (by rw [hc1_1]; decide) (by rw [hc1_1]; rfl) (by decide) ?_
    refine mm_aload_n C (pc := 75) 0 dX11_count_75 rfl ?_
    replace hK := mm_bd hK; obtain ⟨v76, e76, hK⟩ := hK
    refine mm_getr C (pc := 76) (k := 5) inGX11 rfl (by decide) wd_850 dX11_count_76 e76 ?_
    replace hK := mm_bd hK; obtain ⟨v79, e79, hK⟩ := hK
    refine mm_getr C (pc := 79) (k := 2) inGX0 rfl (by decide) wd_819 dX11_count_79 e79 ?_
    replace hK := mm_bd hK; obtain ⟨v82, e82, hK⟩ := hK
    refine mm_geti C (pc := 82) (k := 0) inGX8 rfl (by decide) wd_776 dX11_count_82 e82 ?_
    cases hK
    exact mm_iret C (pc := 85) rfl dX11_count_85 rfl rfl
  replace hK := mm_in hc1_1 hK
  by_cases hc1_2 : a1 = (2 : Int32)
  · replace hK := mm_ip hc1_2 hK
    refine mm_tableIn C (pc := 1) (tgt := 86) (off := 85) dX11_count_1 (by rw [hc1_2]; decide) (by rw [hc1_2]; decide) (by rw [hc1_2]; rfl) (by decide) ?_
    refine mm_aload_n C (pc := 86) 0 dX11_count_86 rfl ?_
    replace hK := mm_bd hK; obtain ⟨v87, e87, hK⟩ := hK
    refine mm_getr C (pc := 87) (k := 5) inGX11 rfl (by decide) wd_850 dX11_count_87 e87 ?_
    replace hK := mm_bd hK; obtain ⟨v90, e90, hK⟩ := hK
    refine mm_getr C (pc := 90) (k := 2) inGX0 rfl (by decide) wd_819 dX11_count_90 e90 ?_
    replace hK := mm_bd hK; obtain ⟨v93, e93, hK⟩ := hK
    refine mm_geti C (pc := 93) (k := 1) inGX8 rfl (by decide) wd_779 dX11_count_93 e93 ?_
    cases hK
    exact mm_iret C (pc := 96) rfl dX11_count_96 rfl rfl
  replace hK := mm_in hc1_2 hK
  by_cases hc1_3 : a1 = (3 : Int32)
  · replace hK := mm_ip hc1_3 hK
    refine mm_tableIn C (pc := 1) (tgt := 97) (off := 96) dX11_count_1 (by rw [hc1_3]; decide) (by rw [hc1_3]; decide) (by rw [hc1_3]; rfl) (by decide) ?_
    refine mm_aload_n C (pc := 97) 0 dX11_count_97 rfl ?_
    replace hK := mm_bd hK; obtain ⟨v98, e98, hK⟩ := hK
    refine mm_getr C (pc := 98) (k := 5) inGX11 rfl (by decide) wd_850 dX11_count_98 e98 ?_
    replace hK := mm_b2s hK; obtain ⟨v101, h101, e101, hK⟩ := hK
    obtain ⟨o101, e101⟩ := cV_some e101
    refine mm_callV C (pc := 101) (d1 := 1) (As := []) (st := []) (vk := (some (.int v101))) ((S_X0_calls (by omega)) e101) tT_X0_calls o101 (Or.inr ⟨_, rfl, rfl⟩) wd_1075 wd_919 wd_920 (by omega) (by decide) rfl (by simp [mm_crf, mm_cti, mm_ctl]) rfl dX11_count_101 ?_
    show V _ _ (.int v101 :: _) _
    cases hK
    exact mm_iret C (pc := 104) rfl dX11_count_104 rfl rfl
  replace hK := mm_in hc1_3 hK
  by_cases hc1_4 : a1 = (4 : Int32)
  · replace hK := mm_ip hc1_4 hK
    refine mm_tableIn C (pc := 1) (tgt := 105) (off := 104) dX11_count_1 (by rw [hc1_4]; decide) (by rw [hc1_4]; decide) (by rw [hc1_4]; rfl) (by decide) ?_
    refine mm_aload_n C (pc := 105) 0 dX11_count_105 rfl ?_
    replace hK := mm_bd hK; obtain ⟨v106, e106, hK⟩ := hK
    refine mm_getr C (pc := 106) (k := 5) inGX11 rfl (by decide) wd_850 dX11_count_106 e106 ?_
    refine mm_iload_n C (pc := 109) 1 dX11_count_109 rfl ?_
    refine mm_iconst C (pc := 110) (v := (4 : Int32)) dX11_count_110 (by decide) ?_
    refine mm_isub C (pc := 111) dX11_count_111 ?_
    replace hK := mm_b2s hK; obtain ⟨v112, h112, e112, hK⟩ := hK
    obtain ⟨o112, e112⟩ := cV_some e112
    refine mm_callV C (pc := 112) (d1 := 3) (As := [.int (a1 - (4 : Int32))]) (st := []) (vk := (some (.int v112))) ((S_X0_tally (by omega)) e112) tT_X0_tally o112 (Or.inr ⟨_, rfl, rfl⟩) wd_1137 wd_1138 wd_1139 (by omega) (by decide) rfl (by simp [mm_crf, mm_cti, mm_ctl]) rfl dX11_count_112 ?_
    show V _ _ (.int v112 :: _) _
    cases hK
    exact mm_iret C (pc := 115) rfl dX11_count_115 rfl rfl
  replace hK := mm_in hc1_4 hK
  by_cases hc1_5 : a1 = (5 : Int32)
  · replace hK := mm_ip hc1_5 hK
    refine mm_tableIn C (pc := 1) (tgt := 105) (off := 104) dX11_count_1 (by rw [hc1_5]; decide) (by rw [hc1_5]; decide) (by rw [hc1_5]; rfl) (by decide) ?_
    refine mm_aload_n C (pc := 105) 0 dX11_count_105 rfl ?_
    replace hK := mm_bd hK; obtain ⟨v106, e106, hK⟩ := hK
    refine mm_getr C (pc := 106) (k := 5) inGX11 rfl (by decide) wd_850 dX11_count_106 e106 ?_
    refine mm_iload_n C (pc := 109) 1 dX11_count_109 rfl ?_
    refine mm_iconst C (pc := 110) (v := (4 : Int32)) dX11_count_110 (by decide) ?_
    refine mm_isub C (pc := 111) dX11_count_111 ?_
    replace hK := mm_b2s hK; obtain ⟨v112, h112, e112, hK⟩ := hK
    obtain ⟨o112, e112⟩ := cV_some e112
    refine mm_callV C (pc := 112) (d1 := 3) (As := [.int (a1 - (4 : Int32))]) (st := []) (vk := (some (.int v112))) ((S_X0_tally (by omega)) e112) tT_X0_tally o112 (Or.inr ⟨_, rfl, rfl⟩) wd_1137 wd_1138 wd_1139 (by omega) (by decide) rfl (by simp [mm_crf, mm_cti, mm_ctl]) rfl dX11_count_112 ?_
    show V _ _ (.int v112 :: _) _
    cases hK
    exact mm_iret C (pc := 115) rfl dX11_count_115 rfl rfl
  replace hK := mm_in hc1_5 hK
  by_cases hc1_6 : a1 = (6 : Int32)
  · replace hK := mm_ip hc1_6 hK
    refine mm_tableIn C (pc := 1) (tgt := 105) (off := 104) dX11_count_1 (by rw [hc1_6]; decide) (by rw [hc1_6]; decide) (by rw [hc1_6]; rfl) (by decide) ?_
    refine mm_aload_n C (pc := 105) 0 dX11_count_105 rfl ?_
    replace hK := mm_bd hK; obtain ⟨v106, e106, hK⟩ := hK
    refine mm_getr C (pc := 106) (k := 5) inGX11 rfl (by decide) wd_850 dX11_count_106 e106 ?_
    refine mm_iload_n C (pc := 109) 1 dX11_count_109 rfl ?_
    refine mm_iconst C (pc := 110) (v := (4 : Int32)) dX11_count_110 (by decide) ?_
    refine mm_isub C (pc := 111) dX11_count_111 ?_
    replace hK := mm_b2s hK; obtain ⟨v112, h112, e112, hK⟩ := hK
    obtain ⟨o112, e112⟩ := cV_some e112
    refine mm_callV C (pc := 112) (d1 := 3) (As := [.int (a1 - (4 : Int32))]) (st := []) (vk := (some (.int v112))) ((S_X0_tally (by omega)) e112) tT_X0_tally o112 (Or.inr ⟨_, rfl, rfl⟩) wd_1137 wd_1138 wd_1139 (by omega) (by decide) rfl (by simp [mm_crf, mm_cti, mm_ctl]) rfl dX11_count_112 ?_
    show V _ _ (.int v112 :: _) _
    cases hK
    exact mm_iret C (pc := 115) rfl dX11_count_115 rfl rfl
  replace hK := mm_in hc1_6 hK
  by_cases hc1_7 : a1 = (7 : Int32)
  · replace hK := mm_ip hc1_7 hK
    refine mm_tableIn C (pc := 1) (tgt := 105) (off := 104) dX11_count_1 (by rw [hc1_7]; decide) (by rw [hc1_7]; decide) (by rw [hc1_7]; rfl) (by decide) ?_
    refine mm_aload_n C (pc := 105) 0 dX11_count_105 rfl ?_
    replace hK := mm_bd hK; obtain ⟨v106, e106, hK⟩ := hK
    refine mm_getr C (pc := 106) (k := 5) inGX11 rfl (by decide) wd_850 dX11_count_106 e106 ?_
    refine mm_iload_n C (pc := 109) 1 dX11_count_109 rfl ?_
    refine mm_iconst C (pc := 110) (v := (4 : Int32)) dX11_count_110 (by decide) ?_
    refine mm_isub C (pc := 111) dX11_count_111 ?_
    replace hK := mm_b2s hK; obtain ⟨v112, h112, e112, hK⟩ := hK
    obtain ⟨o112, e112⟩ := cV_some e112
    refine mm_callV C (pc := 112) (d1 := 3) (As := [.int (a1 - (4 : Int32))]) (st := []) (vk := (some (.int v112))) ((S_X0_tally (by omega)) e112) tT_X0_tally o112 (Or.inr ⟨_, rfl, rfl⟩) wd_1137 wd_1138 wd_1139 (by omega) (by decide) rfl (by simp [mm_crf, mm_cti, mm_ctl]) rfl dX11_count_112 ?_
    show V _ _ (.int v112 :: _) _
    cases hK
    exact mm_iret C (pc := 115) rfl dX11_count_115 rfl rfl
  replace hK := mm_in hc1_7 hK
  by_cases hc1_8 : a1 = (8 : Int32)
  · replace hK := mm_ip hc1_8 hK
    refine mm_tableIn C (pc := 1) (tgt := 116) (off := 115) dX11_count_1 (by rw [hc1_8]; decide) (by rw [hc1_8]; decide) (by rw [hc1_8]; rfl) (by decide) ?_
    refine mm_aload_n C (pc := 116) 0 dX11_count_116 rfl ?_
    replace hK := mm_bd hK; obtain ⟨v117, e117, hK⟩ := hK
    refine mm_getr C (pc := 117) (k := 5) inGX11 rfl (by decide) wd_850 dX11_count_117 e117 ?_
    replace hK := mm_b2s hK; obtain ⟨v120, h120, e120, hK⟩ := hK
    obtain ⟨o120, e120⟩ := cV_some e120
    refine mm_callV C (pc := 120) (d1 := 3) (As := []) (st := []) (vk := (some (.int v120))) ((S_X0_twosMarried (by omega)) e120) tT_X0_twosMarried o120 (Or.inr ⟨_, rfl, rfl⟩) wd_1146 wd_1147 wd_1148 (by omega) (by decide) rfl (by simp [mm_crf, mm_cti, mm_ctl]) rfl dX11_count_120 ?_
    show V _ _ (.int v120 :: _) _
    cases hK
    exact mm_iret C (pc := 123) rfl dX11_count_123 rfl rfl
  replace hK := mm_in hc1_8 hK
  by_cases hc1_9 : a1 = (9 : Int32)
  · replace hK := mm_ip hc1_9 hK
    refine mm_tableIn C (pc := 1) (tgt := 124) (off := 123) dX11_count_1 (by rw [hc1_9]; decide) (by rw [hc1_9]; decide) (by rw [hc1_9]; rfl) (by decide) ?_
    refine mm_aload_n C (pc := 124) 0 dX11_count_124 rfl ?_
    replace hK := mm_bd hK; obtain ⟨v125, e125, hK⟩ := hK
    refine mm_getr C (pc := 125) (k := 5) inGX11 rfl (by decide) wd_850 dX11_count_125 e125 ?_
    replace hK := mm_b2s hK; obtain ⟨v128, h128, e128, hK⟩ := hK
    obtain ⟨o128, e128⟩ := cV_some e128
    refine mm_callV C (pc := 128) (d1 := 1) (As := []) (st := []) (vk := (some (.int v128))) ((S_X0_minute (by omega)) e128) tT_X0_minute o128 (Or.inr ⟨_, rfl, rfl⟩) wd_1150 wd_937 wd_938 (by omega) (by decide) rfl (by simp [mm_crf, mm_cti, mm_ctl]) rfl dX11_count_128 ?_
    show V _ _ (.int v128 :: _) _
    cases hK
    exact mm_iret C (pc := 131) rfl dX11_count_131 rfl rfl
  replace hK := mm_in hc1_9 hK
  by_cases hc1_10 : a1 = (10 : Int32)
  · replace hK := mm_ip hc1_10 hK
    refine mm_tableIn C (pc := 1) (tgt := 132) (off := 131) dX11_count_1 (by rw [hc1_10]; decide) (by rw [hc1_10]; decide) (by rw [hc1_10]; rfl) (by decide) ?_
    refine mm_aload_n C (pc := 132) 0 dX11_count_132 rfl ?_
    replace hK := mm_bd hK; obtain ⟨v133, e133, hK⟩ := hK
    refine mm_getr C (pc := 133) (k := 6) inGX11 rfl (by decide) wd_851 dX11_count_133 e133 ?_
    replace hK := mm_b2s hK; obtain ⟨v136, h136, e136, hK⟩ := hK
    obtain ⟨o136, e136⟩ := cV_some e136
    refine mm_callV C (pc := 136) (d1 := 1) (As := []) (st := []) (vk := (some (.int v136))) ((S_X3_many (by omega)) e136) tT_X3_many o136 (Or.inr ⟨_, rfl, rfl⟩) wd_1151 wd_1152 wd_1153 (by omega) (by decide) rfl (by simp [mm_crf, mm_cti, mm_ctl]) rfl dX11_count_136 ?_
    show V _ _ (.int v136 :: _) _
    cases hK
    exact mm_iret C (pc := 139) rfl dX11_count_139 rfl rfl
  replace hK := mm_in hc1_10 hK
  by_cases hc1_11 : a1 = (11 : Int32)
  · replace hK := mm_ip hc1_11 hK
    refine mm_tableIn C (pc := 1) (tgt := 140) (off := 139) dX11_count_1 (by rw [hc1_11]; decide) (by rw [hc1_11]; decide) (by rw [hc1_11]; rfl) (by decide) ?_
    refine mm_aload_n C (pc := 140) 0 dX11_count_140 rfl ?_
    replace hK := mm_bd hK; obtain ⟨v141, e141, hK⟩ := hK
    refine mm_geti C (pc := 141) (k := 1) inGX11 rfl (by decide) wd_846 dX11_count_141 e141 ?_
    cases hK
    exact mm_iret C (pc := 144) rfl dX11_count_144 rfl rfl
  replace hK := mm_in hc1_11 hK
  refine mm_tableOut C (pc := 1) (tgt := 145) dX11_count_1 (by have t0 := mm_nei hc1_0 (k := 0) (by decide); have t1 := mm_nei hc1_1 (k := 1) (by decide); have t2 := mm_nei hc1_2 (k := 2) (by decide); have t3 := mm_nei hc1_3 (k := 3) (by decide); have t4 := mm_nei hc1_4 (k := 4) (by decide); have t5 := mm_nei hc1_5 (k := 5) (by decide); have t6 := mm_nei hc1_6 (k := 6) (by decide); have t7 := mm_nei hc1_7 (k := 7) (by decide); have t8 := mm_nei hc1_8 (k := 8) (by decide); have t9 := mm_nei hc1_9 (k := 9) (by decide); have t10 := mm_nei hc1_10 (k := 10) (by decide); have t11 := mm_nei hc1_11 (k := 11) (by decide); omega) (by decide) ?_
  refine mm_iconst C (pc := 145) (v := ((-1) : Int32)) dX11_count_145 (by decide) ?_
  cases hK
  exact mm_iret C (pc := 146) rfl dX11_count_146 rfl rfl
theorem wd_1998 : Cond.methodLink RX12 1 Lib.objectInit ∈ lw_good := mm_wd 1998 (by decide +kernel) (by decide +kernel)
theorem wd_1999 : Cond.fieldLink RX12 9 "CrossedLinesModel" "known" "[I" ∈ lw_good := mm_wd 1999 (by decide +kernel) (by decide +kernel)
theorem inGX12 : ∀ w ∈ u_ws RX12 TX12 48, w ∈ lw_good := mm_ws [2047, 2049, 2051, 2053, 2055, 2057, 2059, 2061, 2063, 2065, 2067, 2069, 2071, 2073, 2075, 2077, 2079, 2081, 2083, 2085, 2087, 2089, 2091, 2093, 2095, 2097, 2099, 2101, 2103, 2105, 2107, 2109, 2111, 2113, 2115, 2117, 2119, 2121, 2123, 2125, 2127, 2129, 2131, 2133, 2135, 2137, 2139, 2141] (by decide +kernel) (by decide +kernel)
theorem wd_2000 : Cond.fieldLink RX12 13 "CrossedLinesModel" "telling" "[I" ∈ lw_good := mm_wd 2000 (by decide +kernel) (by decide +kernel)
theorem wd_2001 : Cond.fieldLink RX12 16 "CrossedLinesModel" "images" "[I" ∈ lw_good := mm_wd 2001 (by decide +kernel) (by decide +kernel)
theorem wd_2144 : Cond.arrayClass .boolean ∈ lw_good := mm_wd 2144 (by decide +kernel) (by decide +kernel)
theorem wd_2002 : Cond.fieldLink RX12 19 "CrossedLinesModel" "isImage" "[Z" ∈ lw_good := mm_wd 2002 (by decide +kernel) (by decide +kernel)
theorem wd_2004 : Cond.fieldLink RX12 23 "CrossedLinesModel" "tape" "[I" ∈ lw_good := mm_wd 2004 (by decide +kernel) (by decide +kernel)
theorem wd_2014 : Cond.fieldLink RX12 26 "CrossedLinesModel" "faultPlace" "I" ∈ lw_good := mm_wd 2014 (by decide +kernel) (by decide +kernel)
theorem wd_2018 : Cond.fieldLink RX12 30 "CrossedLinesModel" "stack" "[I" ∈ lw_good := mm_wd 2018 (by decide +kernel) (by decide +kernel)
theorem wd_2019 : Cond.fieldLink RX12 33 "CrossedLinesModel" "asked" "[I" ∈ lw_good := mm_wd 2019 (by decide +kernel) (by decide +kernel)
theorem wd_2020 : Cond.fieldLink RX12 36 "CrossedLinesModel" "forced" "[I" ∈ lw_good := mm_wd 2020 (by decide +kernel) (by decide +kernel)
theorem wd_2022 : Cond.fieldLink RX12 39 "CrossedLinesModel" "aside" "[I" ∈ lw_good := mm_wd 2022 (by decide +kernel) (by decide +kernel)
theorem wd_2023 : Cond.fieldLink RX12 42 "CrossedLinesModel" "callsAside" "[I" ∈ lw_good := mm_wd 2023 (by decide +kernel) (by decide +kernel)
theorem wd_2025 : Cond.fieldLink RX12 45 "CrossedLinesModel" "cordOf" "[I" ∈ lw_good := mm_wd 2025 (by decide +kernel) (by decide +kernel)
theorem wd_2030 : Cond.fieldLink RX12 48 "CrossedLinesModel" "row" "[I" ∈ lw_good := mm_wd 2030 (by decide +kernel) (by decide +kernel)
theorem wd_2031 : Cond.fieldLink RX12 51 "CrossedLinesModel" "firstRow" "[I" ∈ lw_good := mm_wd 2031 (by decide +kernel) (by decide +kernel)
theorem wd_2033 : Cond.fieldLink RX12 54 "CrossedLinesModel" "likings" "[I" ∈ lw_good := mm_wd 2033 (by decide +kernel) (by decide +kernel)
theorem wd_2034 : Cond.fieldLink RX12 57 "CrossedLinesModel" "mate" "[I" ∈ lw_good := mm_wd 2034 (by decide +kernel) (by decide +kernel)
theorem wd_2035 : Cond.fieldLink RX12 60 "CrossedLinesModel" "stableMate" "[I" ∈ lw_good := mm_wd 2035 (by decide +kernel) (by decide +kernel)
theorem wd_2036 : Cond.fieldLink RX12 63 "CrossedLinesModel" "happyMate" "[I" ∈ lw_good := mm_wd 2036 (by decide +kernel) (by decide +kernel)
theorem wd_2041 : Cond.fieldLink RX12 66 "CrossedLinesModel" "ruleRow" "[I" ∈ lw_good := mm_wd 2041 (by decide +kernel) (by decide +kernel)
theorem wd_2043 : Cond.fieldLink RX12 69 "CrossedLinesModel" "comesThere" "[I" ∈ lw_good := mm_wd 2043 (by decide +kernel) (by decide +kernel)
theorem wd_2044 : Cond.fieldLink RX12 72 "CrossedLinesModel" "tSort" "[I" ∈ lw_good := mm_wd 2044 (by decide +kernel) (by decide +kernel)
theorem wd_2045 : Cond.fieldLink RX12 75 "CrossedLinesModel" "tMany" "[I" ∈ lw_good := mm_wd 2045 (by decide +kernel) (by decide +kernel)
theorem wd_2046 : Cond.fieldLink RX12 78 "CrossedLinesModel" "numbers" "[J" ∈ lw_good := mm_wd 2046 (by decide +kernel) (by decide +kernel)
def F_X12_init_253 : Nat → Option Nat → Int32 → MH → Option MH
  | 0 => fun _ _ _ => none
  | n + 1 => fun l0 l1 h => if (8 : Int32) ≤ l1 then (some h) else ((gR h l0 12 0).bind fun v260 => (sI h v260 0 ((38 : Int32) + l1) ((-1) : Int32)).bind fun h268 => F_X12_init_253 n l0 (l1 + (1 : Int32)) h268)
set_option maxRecDepth 20000 in
set_option maxHeartbeats 4000000 in
theorem w_X12_init_253 {d : Nat} {V : Nat → List (Nat × Value) → List Value → MH → Prop} {hz : MH} (hd : 1 ≤ d) (C : mm_C d yX12_init cX12_init 2 none (.inr none) hz V) : ∀ (n : Nat) (l0 : Option Nat) (l1 : Int32) (h : MH), F_X12_init_253 n l0 l1 h = some hz → V 253 [(0, va_rf l0), (1, .int l1)] [] h := by
  intro n
  induction n with
  | zero => intro l0 l1 h hK; cases hK
  | succ n ih =>
    intro l0 l1 h hK
    replace hK : (if (8 : Int32) ≤ l1 then (some h) else ((gR h l0 12 0).bind fun v260 => (sI h v260 0 ((38 : Int32) + l1) ((-1) : Int32)).bind fun h268 => F_X12_init_253 n l0 (l1 + (1 : Int32)) h268)) = some hz := hK
    refine mm_iload_n C (pc := 253) 1 dX12_init_253 rfl ?_
    refine mm_bipush C (pc := 254) (v := (8 : Int32)) dX12_init_254 (by decide) ?_
    refine mm_icmp_ge C (pc := 256) (tgt := 275) dX12_init_256 (by decide) (fun hc => ?_) (fun hc => ?_)
    · replace hK := mm_ip hc hK
      cases hK
      exact mm_vret C (pc := 275) rfl dX12_init_275 rfl rfl
    · replace hK := mm_in hc hK
      refine mm_aload_n C (pc := 259) 0 dX12_init_259 rfl ?_
      replace hK := mm_bd hK; obtain ⟨v260, e260, hK⟩ := hK
      refine mm_getr C (pc := 260) (k := 0) inGX12 rfl (by decide) wd_1999 dX12_init_260 e260 ?_
      refine mm_bipush C (pc := 263) (v := (38 : Int32)) dX12_init_263 (by decide) ?_
      refine mm_iload_n C (pc := 265) 1 dX12_init_265 rfl ?_
      refine mm_iadd C (pc := 266) dX12_init_266 ?_
      refine mm_iconst C (pc := 267) (v := ((-1) : Int32)) dX12_init_267 (by decide) ?_
      replace hK := mm_bd hK; obtain ⟨h268, e268, hK⟩ := hK
      refine mm_iast C (pc := 268) dX12_init_268 e268 ?_
      refine mm_iinc C (pc := 269) (v := (l1 + (1 : Int32))) (lv' := [(1, .int (l1 + (1 : Int32))), (0, va_rf l0)]) 1 dX12_init_269 rfl rfl (by decide) (by simp [mm_crf]) ?_
      refine mm_goto C (pc := 272) (tgt := 253) dX12_init_272 (by decide) ?_
      refine mm_sub C [1, 0] rfl ?_
      exact ih _ _ _ hK
def F_X12_init (a0 : Option Nat) (h : MH) : Option MH := a0.bind fun b1 => mm_b2 (nI_ h 0 (3205 : Int32)) fun v8 h8 => (pR h8 (some b1) 12 0 v8).bind fun h10 => mm_b2 (nI_ h10 0 (3205 : Int32)) fun v17 h17 => (pR h17 (some b1) 12 1 v17).bind fun h19 => mm_b2 (nI_ h19 0 (9615 : Int32)) fun v26 h26 => (pR h26 (some b1) 12 2 v26).bind fun h28 => mm_b2 (nI_ h28 3 (3 : Int32)) fun v33 h33 => (pR h33 (some b1) 12 3 v33).bind fun h35 => mm_b2 (nI_ h35 0 (900 : Int32)) fun v42 h42 => (pR h42 (some b1) 12 5 v42).bind fun h44 => (pI h44 (some b1) 12 15 ((-1) : Int32)).bind fun h49 => mm_b2 (nI_ h49 0 (64 : Int32)) fun v55 h55 => (pR h55 (some b1) 12 19 v55).bind fun h57 => mm_b2 (nI_ h57 0 (6 : Int32)) fun v63 h63 => (pR h63 (some b1) 12 20 v63).bind fun h65 => mm_b2 (nI_ h65 0 (10 : Int32)) fun v71 h71 => (sI h71 v71 0 (0 : Int32) ((-1) : Int32)).bind fun h76 => (sI h76 v71 0 (1 : Int32) ((-1) : Int32)).bind fun h80 => (sI h80 v71 0 (2 : Int32) ((-1) : Int32)).bind fun h84 => (sI h84 v71 0 (3 : Int32) ((-1) : Int32)).bind fun h88 => (sI h88 v71 0 (4 : Int32) ((-1) : Int32)).bind fun h92 => (sI h92 v71 0 (5 : Int32) ((-1) : Int32)).bind fun h96 => (sI h96 v71 0 (6 : Int32) ((-1) : Int32)).bind fun h101 => (sI h101 v71 0 (7 : Int32) ((-1) : Int32)).bind fun h106 => (sI h106 v71 0 (8 : Int32) ((-1) : Int32)).bind fun h111 => (sI h111 v71 0 (9 : Int32) ((-1) : Int32)).bind fun h116 => (pR h116 (some b1) 12 21 v71).bind fun h117 => mm_b2 (nI_ h117 0 (41 : Int32)) fun v123 h123 => (pR h123 (some b1) 12 23 v123).bind fun h125 => mm_b2 (nI_ h125 0 (40 : Int32)) fun v131 h131 => (pR h131 (some b1) 12 24 v131).bind fun h133 => mm_b2 (nI_ h133 0 (10 : Int32)) fun v139 h139 => (pR h139 (some b1) 12 26 v139).bind fun h141 => mm_b2 (nI_ h141 0 (3 : Int32)) fun v146 h146 => (pR h146 (some b1) 12 31 v146).bind fun h148 => mm_b2 (nI_ h148 0 (3 : Int32)) fun v153 h153 => (pR h153 (some b1) 12 32 v153).bind fun h155 => mm_b2 (nI_ h155 0 (64 : Int32)) fun v161 h161 => (pR h161 (some b1) 12 34 v161).bind fun h163 => mm_b2 (nI_ h163 0 (8 : Int32)) fun v169 h169 => (pR h169 (some b1) 12 35 v169).bind fun h171 => mm_b2 (nI_ h171 0 (8 : Int32)) fun v177 h177 => (pR h177 (some b1) 12 36 v177).bind fun h179 => mm_b2 (nI_ h179 0 (8 : Int32)) fun v185 h185 => (pR h185 (some b1) 12 37 v185).bind fun h187 => mm_b2 (nI_ h187 0 (64 : Int32)) fun v193 h193 => (pR h193 (some b1) 12 42 v193).bind fun h195 => mm_b2 (nI_ h195 0 (8 : Int32)) fun v201 h201 => (pR h201 (some b1) 12 44 v201).bind fun h203 => mm_b2 (nI_ h203 0 (4 : Int32)) fun v208 h208 => (sI h208 v208 0 (0 : Int32) ((-1) : Int32)).bind fun h213 => (sI h213 v208 0 (1 : Int32) ((-1) : Int32)).bind fun h217 => (sI h217 v208 0 (2 : Int32) ((-1) : Int32)).bind fun h221 => (sI h221 v208 0 (3 : Int32) ((-1) : Int32)).bind fun h225 => (pR h225 (some b1) 12 45 v208).bind fun h226 => mm_b2 (nI_ h226 0 (4 : Int32)) fun v231 h231 => (pR h231 (some b1) 12 46 v231).bind fun h233 => mm_b2 (nL_ h233 (120 : Int32)) fun v239 h239 => (pR h239 (some b1) 12 47 v239).bind fun h241 => (gR h241 (some b1) 12 0).bind fun v245 => (sI h241 v245 0 (1 : Int32) (2 : Int32)).bind fun h250 => F_X12_init_253 mm_N (some b1) (0 : Int32) h250
set_option maxRecDepth 20000 in
set_option maxHeartbeats 4000000 in
theorem S_X12_init {d : Nat} (hd : 1 ≤ d) {a0 : Option Nat} {h : MH} {hz : MH} (hK : F_X12_init a0 h = some hz) : mm_M yX12_init cX12_init 2 none d [va_rf a0] h (.inr none) hz := by
  refine mm_ofV (by decide +kernel) (by simp [lg_sl, mm_crf, mm_cti, mm_ctl]) (fun V C => ?_)
  rw [show lv_args 0 [va_rf a0] = [(0, va_rf a0)] by simp [lv_args, mm_crf, mm_cti, mm_ctl]]
  unfold F_X12_init at hK
  refine mm_aload_n C (pc := 0) 0 dX12_init_0 rfl ?_
  replace hK := mm_bd hK; obtain ⟨b1, e1, hK⟩ := hK
  subst e1
  refine mm_objInit C (pc := 1) wd_1998 wd_181 wd_182 (by omega) (by simp [mm_crf, mm_cti, mm_ctl]) dX12_init_1 ?_
  refine mm_aload_n C (pc := 4) 0 dX12_init_4 rfl ?_
  refine mm_sipush C (pc := 5) (v := (3205 : Int32)) dX12_init_5 (by decide) ?_
  replace hK := mm_b2s hK; obtain ⟨v8, h8, e8, hK⟩ := hK
  refine mm_newI C (pc := 8) wd_200 dX12_init_8 e8 ?_
  replace hK := mm_bd hK; obtain ⟨h10, e10, hK⟩ := hK
  refine mm_putr C (pc := 10) (k := 0) true (fun _ => ⟨rfl, rfl⟩) inGX12 tyX12 tyX12_ok nmX12 rfl (by decide) wd_1999 rfl rfl dX12_init_10 e10 ?_
  refine mm_aload_n C (pc := 13) 0 dX12_init_13 rfl ?_
  refine mm_sipush C (pc := 14) (v := (3205 : Int32)) dX12_init_14 (by decide) ?_
  replace hK := mm_b2s hK; obtain ⟨v17, h17, e17, hK⟩ := hK
  refine mm_newI C (pc := 17) wd_200 dX12_init_17 e17 ?_
  replace hK := mm_bd hK; obtain ⟨h19, e19, hK⟩ := hK
  refine mm_putr C (pc := 19) (k := 1) true (fun _ => ⟨rfl, rfl⟩) inGX12 tyX12 tyX12_ok nmX12 rfl (by decide) wd_2000 rfl rfl dX12_init_19 e19 ?_
  refine mm_aload_n C (pc := 22) 0 dX12_init_22 rfl ?_
  refine mm_sipush C (pc := 23) (v := (9615 : Int32)) dX12_init_23 (by decide) ?_
  replace hK := mm_b2s hK; obtain ⟨v26, h26, e26, hK⟩ := hK
  refine mm_newI C (pc := 26) wd_200 dX12_init_26 e26 ?_
  replace hK := mm_bd hK; obtain ⟨h28, e28, hK⟩ := hK
  refine mm_putr C (pc := 28) (k := 2) true (fun _ => ⟨rfl, rfl⟩) inGX12 tyX12 tyX12_ok nmX12 rfl (by decide) wd_2001 rfl rfl dX12_init_28 e28 ?_
  refine mm_aload_n C (pc := 31) 0 dX12_init_31 rfl ?_
  refine mm_iconst C (pc := 32) (v := (3 : Int32)) dX12_init_32 (by decide) ?_
  replace hK := mm_b2s hK; obtain ⟨v33, h33, e33, hK⟩ := hK
  refine mm_newZ C (pc := 33) wd_2144 dX12_init_33 e33 ?_
  replace hK := mm_bd hK; obtain ⟨h35, e35, hK⟩ := hK
  refine mm_putr C (pc := 35) (k := 3) true (fun _ => ⟨rfl, rfl⟩) inGX12 tyX12 tyX12_ok nmX12 rfl (by decide) wd_2002 rfl rfl dX12_init_35 e35 ?_
  refine mm_aload_n C (pc := 38) 0 dX12_init_38 rfl ?_
  refine mm_sipush C (pc := 39) (v := (900 : Int32)) dX12_init_39 (by decide) ?_
  replace hK := mm_b2s hK; obtain ⟨v42, h42, e42, hK⟩ := hK
  refine mm_newI C (pc := 42) wd_200 dX12_init_42 e42 ?_
  replace hK := mm_bd hK; obtain ⟨h44, e44, hK⟩ := hK
  refine mm_putr C (pc := 44) (k := 5) true (fun _ => ⟨rfl, rfl⟩) inGX12 tyX12 tyX12_ok nmX12 rfl (by decide) wd_2004 rfl rfl dX12_init_44 e44 ?_
  refine mm_aload_n C (pc := 47) 0 dX12_init_47 rfl ?_
  refine mm_iconst C (pc := 48) (v := ((-1) : Int32)) dX12_init_48 (by decide) ?_
  replace hK := mm_bd hK; obtain ⟨h49, e49, hK⟩ := hK
  refine mm_puti C (pc := 49) (k := 15) false (fun z => by cases z) inGX12 tyX12 tyX12_ok nmX12 rfl (by decide) wd_2014 rfl rfl dX12_init_49 e49 ?_
  refine mm_aload_n C (pc := 52) 0 dX12_init_52 rfl ?_
  refine mm_bipush C (pc := 53) (v := (64 : Int32)) dX12_init_53 (by decide) ?_
  replace hK := mm_b2s hK; obtain ⟨v55, h55, e55, hK⟩ := hK
  refine mm_newI C (pc := 55) wd_200 dX12_init_55 e55 ?_
  replace hK := mm_bd hK; obtain ⟨h57, e57, hK⟩ := hK
  refine mm_putr C (pc := 57) (k := 19) true (fun _ => ⟨rfl, rfl⟩) inGX12 tyX12 tyX12_ok nmX12 rfl (by decide) wd_2018 rfl rfl dX12_init_57 e57 ?_
  refine mm_aload_n C (pc := 60) 0 dX12_init_60 rfl ?_
  refine mm_bipush C (pc := 61) (v := (6 : Int32)) dX12_init_61 (by decide) ?_
  replace hK := mm_b2s hK; obtain ⟨v63, h63, e63, hK⟩ := hK
  refine mm_newI C (pc := 63) wd_200 dX12_init_63 e63 ?_
  replace hK := mm_bd hK; obtain ⟨h65, e65, hK⟩ := hK
  refine mm_putr C (pc := 65) (k := 20) true (fun _ => ⟨rfl, rfl⟩) inGX12 tyX12 tyX12_ok nmX12 rfl (by decide) wd_2019 rfl rfl dX12_init_65 e65 ?_
  refine mm_aload_n C (pc := 68) 0 dX12_init_68 rfl ?_
  refine mm_bipush C (pc := 69) (v := (10 : Int32)) dX12_init_69 (by decide) ?_
  replace hK := mm_b2s hK; obtain ⟨v71, h71, e71, hK⟩ := hK
  refine mm_newI C (pc := 71) wd_200 dX12_init_71 e71 ?_
  refine mm_dup C (pc := 73) dX12_init_73 mm_crf ?_
  refine mm_iconst C (pc := 74) (v := (0 : Int32)) dX12_init_74 (by decide) ?_
  refine mm_iconst C (pc := 75) (v := ((-1) : Int32)) dX12_init_75 (by decide) ?_
  replace hK := mm_bd hK; obtain ⟨h76, e76, hK⟩ := hK
  refine mm_iast C (pc := 76) dX12_init_76 e76 ?_
  refine mm_dup C (pc := 77) dX12_init_77 mm_crf ?_
  refine mm_iconst C (pc := 78) (v := (1 : Int32)) dX12_init_78 (by decide) ?_
  refine mm_iconst C (pc := 79) (v := ((-1) : Int32)) dX12_init_79 (by decide) ?_
  replace hK := mm_bd hK; obtain ⟨h80, e80, hK⟩ := hK
  refine mm_iast C (pc := 80) dX12_init_80 e80 ?_
  refine mm_dup C (pc := 81) dX12_init_81 mm_crf ?_
  refine mm_iconst C (pc := 82) (v := (2 : Int32)) dX12_init_82 (by decide) ?_
  refine mm_iconst C (pc := 83) (v := ((-1) : Int32)) dX12_init_83 (by decide) ?_
  replace hK := mm_bd hK; obtain ⟨h84, e84, hK⟩ := hK
  refine mm_iast C (pc := 84) dX12_init_84 e84 ?_
  refine mm_dup C (pc := 85) dX12_init_85 mm_crf ?_
  refine mm_iconst C (pc := 86) (v := (3 : Int32)) dX12_init_86 (by decide) ?_
  refine mm_iconst C (pc := 87) (v := ((-1) : Int32)) dX12_init_87 (by decide) ?_
  replace hK := mm_bd hK; obtain ⟨h88, e88, hK⟩ := hK
  refine mm_iast C (pc := 88) dX12_init_88 e88 ?_
  refine mm_dup C (pc := 89) dX12_init_89 mm_crf ?_
  refine mm_iconst C (pc := 90) (v := (4 : Int32)) dX12_init_90 (by decide) ?_
  refine mm_iconst C (pc := 91) (v := ((-1) : Int32)) dX12_init_91 (by decide) ?_
  replace hK := mm_bd hK; obtain ⟨h92, e92, hK⟩ := hK
  refine mm_iast C (pc := 92) dX12_init_92 e92 ?_
  refine mm_dup C (pc := 93) dX12_init_93 mm_crf ?_
  refine mm_iconst C (pc := 94) (v := (5 : Int32)) dX12_init_94 (by decide) ?_
  refine mm_iconst C (pc := 95) (v := ((-1) : Int32)) dX12_init_95 (by decide) ?_
  replace hK := mm_bd hK; obtain ⟨h96, e96, hK⟩ := hK
  refine mm_iast C (pc := 96) dX12_init_96 e96 ?_
  refine mm_dup C (pc := 97) dX12_init_97 mm_crf ?_
  refine mm_bipush C (pc := 98) (v := (6 : Int32)) dX12_init_98 (by decide) ?_
  refine mm_iconst C (pc := 100) (v := ((-1) : Int32)) dX12_init_100 (by decide) ?_
  replace hK := mm_bd hK; obtain ⟨h101, e101, hK⟩ := hK
  refine mm_iast C (pc := 101) dX12_init_101 e101 ?_
  refine mm_dup C (pc := 102) dX12_init_102 mm_crf ?_
  refine mm_bipush C (pc := 103) (v := (7 : Int32)) dX12_init_103 (by decide) ?_
  refine mm_iconst C (pc := 105) (v := ((-1) : Int32)) dX12_init_105 (by decide) ?_
  replace hK := mm_bd hK; obtain ⟨h106, e106, hK⟩ := hK
  refine mm_iast C (pc := 106) dX12_init_106 e106 ?_
  refine mm_dup C (pc := 107) dX12_init_107 mm_crf ?_
  refine mm_bipush C (pc := 108) (v := (8 : Int32)) dX12_init_108 (by decide) ?_
  refine mm_iconst C (pc := 110) (v := ((-1) : Int32)) dX12_init_110 (by decide) ?_
  replace hK := mm_bd hK; obtain ⟨h111, e111, hK⟩ := hK
  refine mm_iast C (pc := 111) dX12_init_111 e111 ?_
  refine mm_dup C (pc := 112) dX12_init_112 mm_crf ?_
  refine mm_bipush C (pc := 113) (v := (9 : Int32)) dX12_init_113 (by decide) ?_
  refine mm_iconst C (pc := 115) (v := ((-1) : Int32)) dX12_init_115 (by decide) ?_
  replace hK := mm_bd hK; obtain ⟨h116, e116, hK⟩ := hK
  refine mm_iast C (pc := 116) dX12_init_116 e116 ?_
  replace hK := mm_bd hK; obtain ⟨h117, e117, hK⟩ := hK
  refine mm_putr C (pc := 117) (k := 21) true (fun _ => ⟨rfl, rfl⟩) inGX12 tyX12 tyX12_ok nmX12 rfl (by decide) wd_2020 rfl rfl dX12_init_117 e117 ?_
  refine mm_aload_n C (pc := 120) 0 dX12_init_120 rfl ?_
  refine mm_bipush C (pc := 121) (v := (41 : Int32)) dX12_init_121 (by decide) ?_
  replace hK := mm_b2s hK; obtain ⟨v123, h123, e123, hK⟩ := hK
  refine mm_newI C (pc := 123) wd_200 dX12_init_123 e123 ?_
  replace hK := mm_bd hK; obtain ⟨h125, e125, hK⟩ := hK
  refine mm_putr C (pc := 125) (k := 23) true (fun _ => ⟨rfl, rfl⟩) inGX12 tyX12 tyX12_ok nmX12 rfl (by decide) wd_2022 rfl rfl dX12_init_125 e125 ?_
  refine mm_aload_n C (pc := 128) 0 dX12_init_128 rfl ?_
  refine mm_bipush C (pc := 129) (v := (40 : Int32)) dX12_init_129 (by decide) ?_
  replace hK := mm_b2s hK; obtain ⟨v131, h131, e131, hK⟩ := hK
  refine mm_newI C (pc := 131) wd_200 dX12_init_131 e131 ?_
  replace hK := mm_bd hK; obtain ⟨h133, e133, hK⟩ := hK
  refine mm_putr C (pc := 133) (k := 24) true (fun _ => ⟨rfl, rfl⟩) inGX12 tyX12 tyX12_ok nmX12 rfl (by decide) wd_2023 rfl rfl dX12_init_133 e133 ?_
  refine mm_aload_n C (pc := 136) 0 dX12_init_136 rfl ?_
  refine mm_bipush C (pc := 137) (v := (10 : Int32)) dX12_init_137 (by decide) ?_
  replace hK := mm_b2s hK; obtain ⟨v139, h139, e139, hK⟩ := hK
  refine mm_newI C (pc := 139) wd_200 dX12_init_139 e139 ?_
  replace hK := mm_bd hK; obtain ⟨h141, e141, hK⟩ := hK
  refine mm_putr C (pc := 141) (k := 26) true (fun _ => ⟨rfl, rfl⟩) inGX12 tyX12 tyX12_ok nmX12 rfl (by decide) wd_2025 rfl rfl dX12_init_141 e141 ?_
  refine mm_aload_n C (pc := 144) 0 dX12_init_144 rfl ?_
  refine mm_iconst C (pc := 145) (v := (3 : Int32)) dX12_init_145 (by decide) ?_
  replace hK := mm_b2s hK; obtain ⟨v146, h146, e146, hK⟩ := hK
  refine mm_newI C (pc := 146) wd_200 dX12_init_146 e146 ?_
  replace hK := mm_bd hK; obtain ⟨h148, e148, hK⟩ := hK
  refine mm_putr C (pc := 148) (k := 31) true (fun _ => ⟨rfl, rfl⟩) inGX12 tyX12 tyX12_ok nmX12 rfl (by decide) wd_2030 rfl rfl dX12_init_148 e148 ?_
  refine mm_aload_n C (pc := 151) 0 dX12_init_151 rfl ?_
  refine mm_iconst C (pc := 152) (v := (3 : Int32)) dX12_init_152 (by decide) ?_
  replace hK := mm_b2s hK; obtain ⟨v153, h153, e153, hK⟩ := hK
  refine mm_newI C (pc := 153) wd_200 dX12_init_153 e153 ?_
  replace hK := mm_bd hK; obtain ⟨h155, e155, hK⟩ := hK
  refine mm_putr C (pc := 155) (k := 32) true (fun _ => ⟨rfl, rfl⟩) inGX12 tyX12 tyX12_ok nmX12 rfl (by decide) wd_2031 rfl rfl dX12_init_155 e155 ?_
  refine mm_aload_n C (pc := 158) 0 dX12_init_158 rfl ?_
  refine mm_bipush C (pc := 159) (v := (64 : Int32)) dX12_init_159 (by decide) ?_
  replace hK := mm_b2s hK; obtain ⟨v161, h161, e161, hK⟩ := hK
  refine mm_newI C (pc := 161) wd_200 dX12_init_161 e161 ?_
  replace hK := mm_bd hK; obtain ⟨h163, e163, hK⟩ := hK
  refine mm_putr C (pc := 163) (k := 34) true (fun _ => ⟨rfl, rfl⟩) inGX12 tyX12 tyX12_ok nmX12 rfl (by decide) wd_2033 rfl rfl dX12_init_163 e163 ?_
  refine mm_aload_n C (pc := 166) 0 dX12_init_166 rfl ?_
  refine mm_bipush C (pc := 167) (v := (8 : Int32)) dX12_init_167 (by decide) ?_
  replace hK := mm_b2s hK; obtain ⟨v169, h169, e169, hK⟩ := hK
  refine mm_newI C (pc := 169) wd_200 dX12_init_169 e169 ?_
  replace hK := mm_bd hK; obtain ⟨h171, e171, hK⟩ := hK
  refine mm_putr C (pc := 171) (k := 35) true (fun _ => ⟨rfl, rfl⟩) inGX12 tyX12 tyX12_ok nmX12 rfl (by decide) wd_2034 rfl rfl dX12_init_171 e171 ?_
  refine mm_aload_n C (pc := 174) 0 dX12_init_174 rfl ?_
  refine mm_bipush C (pc := 175) (v := (8 : Int32)) dX12_init_175 (by decide) ?_
  replace hK := mm_b2s hK; obtain ⟨v177, h177, e177, hK⟩ := hK
  refine mm_newI C (pc := 177) wd_200 dX12_init_177 e177 ?_
  replace hK := mm_bd hK; obtain ⟨h179, e179, hK⟩ := hK
  refine mm_putr C (pc := 179) (k := 36) true (fun _ => ⟨rfl, rfl⟩) inGX12 tyX12 tyX12_ok nmX12 rfl (by decide) wd_2035 rfl rfl dX12_init_179 e179 ?_
  refine mm_aload_n C (pc := 182) 0 dX12_init_182 rfl ?_
  refine mm_bipush C (pc := 183) (v := (8 : Int32)) dX12_init_183 (by decide) ?_
  replace hK := mm_b2s hK; obtain ⟨v185, h185, e185, hK⟩ := hK
  refine mm_newI C (pc := 185) wd_200 dX12_init_185 e185 ?_
  replace hK := mm_bd hK; obtain ⟨h187, e187, hK⟩ := hK
  refine mm_putr C (pc := 187) (k := 37) true (fun _ => ⟨rfl, rfl⟩) inGX12 tyX12 tyX12_ok nmX12 rfl (by decide) wd_2036 rfl rfl dX12_init_187 e187 ?_
  refine mm_aload_n C (pc := 190) 0 dX12_init_190 rfl ?_
  refine mm_bipush C (pc := 191) (v := (64 : Int32)) dX12_init_191 (by decide) ?_
  replace hK := mm_b2s hK; obtain ⟨v193, h193, e193, hK⟩ := hK
  refine mm_newI C (pc := 193) wd_200 dX12_init_193 e193 ?_
  replace hK := mm_bd hK; obtain ⟨h195, e195, hK⟩ := hK
  refine mm_putr C (pc := 195) (k := 42) true (fun _ => ⟨rfl, rfl⟩) inGX12 tyX12 tyX12_ok nmX12 rfl (by decide) wd_2041 rfl rfl dX12_init_195 e195 ?_
  refine mm_aload_n C (pc := 198) 0 dX12_init_198 rfl ?_
  refine mm_bipush C (pc := 199) (v := (8 : Int32)) dX12_init_199 (by decide) ?_
  replace hK := mm_b2s hK; obtain ⟨v201, h201, e201, hK⟩ := hK
  refine mm_newI C (pc := 201) wd_200 dX12_init_201 e201 ?_
  replace hK := mm_bd hK; obtain ⟨h203, e203, hK⟩ := hK
  refine mm_putr C (pc := 203) (k := 44) true (fun _ => ⟨rfl, rfl⟩) inGX12 tyX12 tyX12_ok nmX12 rfl (by decide) wd_2043 rfl rfl dX12_init_203 e203 ?_
  refine mm_aload_n C (pc := 206) 0 dX12_init_206 rfl ?_
  refine mm_iconst C (pc := 207) (v := (4 : Int32)) dX12_init_207 (by decide) ?_
  replace hK := mm_b2s hK; obtain ⟨v208, h208, e208, hK⟩ := hK
  refine mm_newI C (pc := 208) wd_200 dX12_init_208 e208 ?_
  refine mm_dup C (pc := 210) dX12_init_210 mm_crf ?_
  refine mm_iconst C (pc := 211) (v := (0 : Int32)) dX12_init_211 (by decide) ?_
  refine mm_iconst C (pc := 212) (v := ((-1) : Int32)) dX12_init_212 (by decide) ?_
  replace hK := mm_bd hK; obtain ⟨h213, e213, hK⟩ := hK
  refine mm_iast C (pc := 213) dX12_init_213 e213 ?_
  refine mm_dup C (pc := 214) dX12_init_214 mm_crf ?_
  refine mm_iconst C (pc := 215) (v := (1 : Int32)) dX12_init_215 (by decide) ?_
  refine mm_iconst C (pc := 216) (v := ((-1) : Int32)) dX12_init_216 (by decide) ?_
  replace hK := mm_bd hK; obtain ⟨h217, e217, hK⟩ := hK
  refine mm_iast C (pc := 217) dX12_init_217 e217 ?_
  refine mm_dup C (pc := 218) dX12_init_218 mm_crf ?_
  refine mm_iconst C (pc := 219) (v := (2 : Int32)) dX12_init_219 (by decide) ?_
  refine mm_iconst C (pc := 220) (v := ((-1) : Int32)) dX12_init_220 (by decide) ?_
  replace hK := mm_bd hK; obtain ⟨h221, e221, hK⟩ := hK
  refine mm_iast C (pc := 221) dX12_init_221 e221 ?_
  refine mm_dup C (pc := 222) dX12_init_222 mm_crf ?_
  refine mm_iconst C (pc := 223) (v := (3 : Int32)) dX12_init_223 (by decide) ?_
  refine mm_iconst C (pc := 224) (v := ((-1) : Int32)) dX12_init_224 (by decide) ?_
  replace hK := mm_bd hK; obtain ⟨h225, e225, hK⟩ := hK
  refine mm_iast C (pc := 225) dX12_init_225 e225 ?_
  replace hK := mm_bd hK; obtain ⟨h226, e226, hK⟩ := hK
  refine mm_putr C (pc := 226) (k := 45) true (fun _ => ⟨rfl, rfl⟩) inGX12 tyX12 tyX12_ok nmX12 rfl (by decide) wd_2044 rfl rfl dX12_init_226 e226 ?_
  refine mm_aload_n C (pc := 229) 0 dX12_init_229 rfl ?_
  refine mm_iconst C (pc := 230) (v := (4 : Int32)) dX12_init_230 (by decide) ?_
  replace hK := mm_b2s hK; obtain ⟨v231, h231, e231, hK⟩ := hK
  refine mm_newI C (pc := 231) wd_200 dX12_init_231 e231 ?_
  replace hK := mm_bd hK; obtain ⟨h233, e233, hK⟩ := hK
  refine mm_putr C (pc := 233) (k := 46) true (fun _ => ⟨rfl, rfl⟩) inGX12 tyX12 tyX12_ok nmX12 rfl (by decide) wd_2045 rfl rfl dX12_init_233 e233 ?_
  refine mm_aload_n C (pc := 236) 0 dX12_init_236 rfl ?_
  refine mm_bipush C (pc := 237) (v := (120 : Int32)) dX12_init_237 (by decide) ?_
  replace hK := mm_b2s hK; obtain ⟨v239, h239, e239, hK⟩ := hK
  refine mm_newJ C (pc := 239) wd_844 dX12_init_239 e239 ?_
  replace hK := mm_bd hK; obtain ⟨h241, e241, hK⟩ := hK
  refine mm_putr C (pc := 241) (k := 47) true (fun _ => ⟨rfl, rfl⟩) inGX12 tyX12 tyX12_ok nmX12 rfl (by decide) wd_2046 rfl rfl dX12_init_241 e241 ?_
  refine mm_aload_n C (pc := 244) 0 dX12_init_244 rfl ?_
  replace hK := mm_bd hK; obtain ⟨v245, e245, hK⟩ := hK
  refine mm_getr C (pc := 245) (k := 0) inGX12 rfl (by decide) wd_1999 dX12_init_245 e245 ?_
  refine mm_iconst C (pc := 248) (v := (1 : Int32)) dX12_init_248 (by decide) ?_
  refine mm_iconst C (pc := 249) (v := (2 : Int32)) dX12_init_249 (by decide) ?_
  replace hK := mm_bd hK; obtain ⟨h250, e250, hK⟩ := hK
  refine mm_iast C (pc := 250) dX12_init_250 e250 ?_
  refine mm_iconst C (pc := 251) (v := (0 : Int32)) dX12_init_251 (by decide) ?_
  refine mm_istore_n C (pc := 252) (i := 1) (lv' := [(1, .int (0 : Int32)), (0, va_rf (some b1))]) dX12_init_252 rfl (by decide) (by simp [mm_crf]) ?_
  refine mm_sub C [1, 0] rfl ?_
  exact w_X12_init_253 hd C _ _ _ _ hK
theorem wd_2003 : Cond.fieldLink RX12 82 "CrossedLinesModel" "thrown" "I" ∈ lw_good := mm_wd 2003 (by decide +kernel) (by decide +kernel)
def F_X12_thrown (a0 : Option Nat) (h : MH) : Option (Int32 × MH) := (gI h a0 12 4).bind fun v1 => some (v1, h)
set_option maxRecDepth 20000 in
set_option maxHeartbeats 4000000 in
theorem S_X12_thrown {d : Nat} (hd : 1 ≤ d) {a0 : Option Nat} {h : MH} {r : Int32} {hz : MH} (hK : F_X12_thrown a0 h = some (r, hz)) : mm_M yX12_thrown cX12_thrown 1 (some .int) d [va_rf a0] h (.inr (some (.int r))) hz := by
  refine mm_ofV (by decide +kernel) (by simp [lg_sl, mm_crf, mm_cti, mm_ctl]) (fun V C => ?_)
  rw [show lv_args 0 [va_rf a0] = [(0, va_rf a0)] by simp [lv_args, mm_crf, mm_cti, mm_ctl]]
  unfold F_X12_thrown at hK
  refine mm_aload_n C (pc := 0) 0 dX12_thrown_0 rfl ?_
  replace hK := mm_bd hK; obtain ⟨v1, e1, hK⟩ := hK
  refine mm_geti C (pc := 1) (k := 4) inGX12 rfl (by decide) wd_2003 dX12_thrown_1 e1 ?_
  cases hK
  exact mm_iret C (pc := 4) rfl dX12_thrown_4 rfl rfl
def F_X12_fails (a0 : Option Nat) (a1 : Int32) (h : MH) : Option (Int32 × MH) := (pI h a0 12 4 a1).bind fun h2 => some ((0 : Int32), h2)
set_option maxRecDepth 20000 in
set_option maxHeartbeats 4000000 in
theorem S_X12_fails {d : Nat} (hd : 1 ≤ d) {a0 : Option Nat} {a1 : Int32} {h : MH} {r : Int32} {hz : MH} (hK : F_X12_fails a0 a1 h = some (r, hz)) : mm_M yX12_fails cX12_fails 2 (some .int) d [va_rf a0, .int a1] h (.inr (some (.int r))) hz := by
  refine mm_ofV (by decide +kernel) (by simp [lg_sl, mm_crf, mm_cti, mm_ctl]) (fun V C => ?_)
  rw [show lv_args 0 [va_rf a0, .int a1] = [(0, va_rf a0), (1, .int a1)] by simp [lv_args, mm_crf, mm_cti, mm_ctl]]
  unfold F_X12_fails at hK
  refine mm_aload_n C (pc := 0) 0 dX12_fails_0 rfl ?_
  refine mm_iload_n C (pc := 1) 1 dX12_fails_1 rfl ?_
  replace hK := mm_bd hK; obtain ⟨h2, e2, hK⟩ := hK
  refine mm_puti C (pc := 2) (k := 4) false (fun z => by cases z) inGX12 tyX12 tyX12_ok nmX12 rfl (by decide) wd_2003 rfl rfl dX12_fails_2 e2 ?_
  refine mm_iconst C (pc := 5) (v := (0 : Int32)) dX12_fails_5 (by decide) ?_
  cases hK
  exact mm_iret C (pc := 6) rfl dX12_fails_6 rfl rfl
def F_X12_within_18 (s0 : Int32) (h : MH) : Option (Int32 × MH) := rZ s0 h
set_option maxRecDepth 20000 in
set_option maxHeartbeats 4000000 in
theorem w_X12_within_18 {d : Nat} {V : Nat → List (Nat × Value) → List Value → MH → Prop} {r : Int32} {hz : MH} (hd : 1 ≤ d) (C : mm_C d yX12_within cX12_within 6 (some .boolean) (.inr (some (.int r))) hz V) (s0 : Int32) (h : MH) (hK : F_X12_within_18 s0 h = some (r, hz)) : V 18 [] [.int s0] h := by
  unfold F_X12_within_18 at hK
  replace hK := rZ_some hK; obtain ⟨hv18, hK⟩ := hK
  cases hK
  exact mm_zret C (pc := 18) rfl (mm_nrZ hv18) dX12_within_18 rfl rfl
def F_X12_within_17 (h : MH) : Option (Int32 × MH) := F_X12_within_18 (0 : Int32) h
set_option maxRecDepth 20000 in
set_option maxHeartbeats 4000000 in
theorem w_X12_within_17 {d : Nat} {V : Nat → List (Nat × Value) → List Value → MH → Prop} {r : Int32} {hz : MH} (hd : 1 ≤ d) (C : mm_C d yX12_within cX12_within 6 (some .boolean) (.inr (some (.int r))) hz V) (h : MH) (hK : F_X12_within_17  h = some (r, hz)) : V 17 [] [] h := by
  unfold F_X12_within_17 at hK
  refine mm_iconst C (pc := 17) (v := (0 : Int32)) dX12_within_17 (by decide) ?_
  exact w_X12_within_18 hd C _ _ hK
def F_X12_within (a0 : Int64) (a1 : Int64) (a2 : Int64) (h : MH) : Option (Int32 × MH) := if (lg_cmp a0 a1) < 0 then (F_X12_within_17 h) else (if 0 < (lg_cmp a0 a2) then (F_X12_within_17 h) else (F_X12_within_18 (1 : Int32) h))
set_option maxRecDepth 20000 in
set_option maxHeartbeats 4000000 in
theorem S_X12_within {d : Nat} (hd : 1 ≤ d) {a0 : Int64} {a1 : Int64} {a2 : Int64} {h : MH} {r : Int32} {hz : MH} (hK : F_X12_within a0 a1 a2 h = some (r, hz)) : mm_M yX12_within cX12_within 6 (some .boolean) d [.long a0, .long a1, .long a2] h (.inr (some (.int r))) hz := by
  refine mm_ofV (by decide +kernel) (by simp [lg_sl, mm_crf, mm_cti, mm_ctl]) (fun V C => ?_)
  rw [show lv_args 0 [.long a0, .long a1, .long a2] = [(0, .long a0), (2, .long a1), (4, .long a2)] by simp [lv_args, mm_crf, mm_cti, mm_ctl]]
  unfold F_X12_within at hK
  refine mm_lload_n C (pc := 0) 0 dX12_within_0 rfl ?_
  refine mm_lload_n C (pc := 1) 1 dX12_within_1 rfl ?_
  refine mm_lcmp C (pc := 2) dX12_within_2 ?_
  refine mm_if_lt C (pc := 3) (tgt := 17) dX12_within_3 (by decide) (fun hc => ?_) (fun hc => ?_)
  · replace hK := mm_ip hc hK
    refine mm_sub C [] rfl ?_
    exact w_X12_within_17 hd C _ hK
  · replace hK := mm_in hc hK
    refine mm_lload_n C (pc := 6) 0 dX12_within_6 rfl ?_
    refine mm_lload C (pc := 7) 2 dX12_within_7 rfl ?_
    refine mm_lcmp C (pc := 9) dX12_within_9 ?_
    refine mm_if_gt C (pc := 10) (tgt := 17) dX12_within_10 (by decide) (fun hc => ?_) (fun hc => ?_)
    · replace hK := mm_ip hc hK
      refine mm_sub C [] rfl ?_
      exact w_X12_within_17 hd C _ hK
    · replace hK := mm_in hc hK
      refine mm_iconst C (pc := 13) (v := (1 : Int32)) dX12_within_13 (by decide) ?_
      refine mm_goto C (pc := 14) (tgt := 18) dX12_within_14 (by decide) ?_
      refine mm_sub C [] rfl ?_
      exact w_X12_within_18 hd C _ _ hK
def F_X12_has_14 (s0 : Int32) (h : MH) : Option (Int32 × MH) := rZ s0 h
set_option maxRecDepth 20000 in
set_option maxHeartbeats 4000000 in
theorem w_X12_has_14 {d : Nat} {V : Nat → List (Nat × Value) → List Value → MH → Prop} {r : Int32} {hz : MH} (hd : 1 ≤ d) (C : mm_C d yX12_has cX12_has 2 (some .boolean) (.inr (some (.int r))) hz V) (s0 : Int32) (h : MH) (hK : F_X12_has_14 s0 h = some (r, hz)) : V 14 [] [.int s0] h := by
  unfold F_X12_has_14 at hK
  replace hK := rZ_some hK; obtain ⟨hv14, hK⟩ := hK
  cases hK
  exact mm_zret C (pc := 14) rfl (mm_nrZ hv14) dX12_has_14 rfl rfl
def F_X12_has (a0 : Int32) (a1 : Int32) (h : MH) : Option (Int32 × MH) := if ((a0 >>> (a1 &&& 31)) &&& (1 : Int32)) = (1 : Int32) then (F_X12_has_14 (1 : Int32) h) else (F_X12_has_14 (0 : Int32) h)
set_option maxRecDepth 20000 in
set_option maxHeartbeats 4000000 in
theorem S_X12_has {d : Nat} (hd : 1 ≤ d) {a0 : Int32} {a1 : Int32} {h : MH} {r : Int32} {hz : MH} (hK : F_X12_has a0 a1 h = some (r, hz)) : mm_M yX12_has cX12_has 2 (some .boolean) d [.int a0, .int a1] h (.inr (some (.int r))) hz := by
  refine mm_ofV (by decide +kernel) (by simp [lg_sl, mm_crf, mm_cti, mm_ctl]) (fun V C => ?_)
  rw [show lv_args 0 [.int a0, .int a1] = [(0, .int a0), (1, .int a1)] by simp [lv_args, mm_crf, mm_cti, mm_ctl]]
  unfold F_X12_has at hK
  refine mm_iload_n C (pc := 0) 0 dX12_has_0 rfl ?_
  refine mm_iload_n C (pc := 1) 1 dX12_has_1 rfl ?_
  refine mm_ishr C (pc := 2) dX12_has_2 ?_
  refine mm_iconst C (pc := 3) (v := (1 : Int32)) dX12_has_3 (by decide) ?_
  refine mm_iand C (pc := 4) dX12_has_4 ?_
  refine mm_iconst C (pc := 5) (v := (1 : Int32)) dX12_has_5 (by decide) ?_
  refine mm_icmp_ne C (pc := 6) (tgt := 13) dX12_has_6 (by decide) (fun hc => ?_) (fun hc => ?_)
  · replace hK := mm_in hc hK
    refine mm_iconst C (pc := 13) (v := (0 : Int32)) dX12_has_13 (by decide) ?_
    refine mm_sub C [] rfl ?_
    exact w_X12_has_14 hd C _ _ hK
  · replace hK := mm_ip hc hK
    refine mm_iconst C (pc := 9) (v := (1 : Int32)) dX12_has_9 (by decide) ?_
    refine mm_goto C (pc := 10) (tgt := 14) dX12_has_10 (by decide) ?_
    refine mm_sub C [] rfl ?_
    exact w_X12_has_14 hd C _ _ hK
def F_X12_size_4 : Nat → Int32 → Int32 → MH → Option (Int32 × MH)
  | 0 => fun _ _ _ => none
  | n + 1 => fun l1 l2 h => if l2 = 0 then (some (l1, h)) else (F_X12_size_4 n (l1 + (1 : Int32)) (l2 &&& (l2 - (1 : Int32))) h)
set_option maxRecDepth 20000 in
set_option maxHeartbeats 4000000 in
theorem w_X12_size_4 {d : Nat} {V : Nat → List (Nat × Value) → List Value → MH → Prop} {r : Int32} {hz : MH} (hd : 1 ≤ d) (C : mm_C d yX12_size cX12_size 3 (some .int) (.inr (some (.int r))) hz V) : ∀ (n : Nat) (l1 : Int32) (l2 : Int32) (h : MH), F_X12_size_4 n l1 l2 h = some (r, hz) → V 4 [(1, .int l1), (2, .int l2)] [] h := by
  intro n
  induction n with
  | zero => intro l1 l2 h hK; cases hK
  | succ n ih =>
    intro l1 l2 h hK
    replace hK : (if l2 = 0 then (some (l1, h)) else (F_X12_size_4 n (l1 + (1 : Int32)) (l2 &&& (l2 - (1 : Int32))) h)) = some (r, hz) := hK
    refine mm_iload_n C (pc := 4) 1 dX12_size_4 rfl ?_
    refine mm_if_eq C (pc := 5) (tgt := 20) dX12_size_5 (by decide) (fun hc => ?_) (fun hc => ?_)
    · replace hK := mm_ip hc hK
      refine mm_iload_n C (pc := 20) 0 dX12_size_20 rfl ?_
      cases hK
      exact mm_iret C (pc := 21) rfl dX12_size_21 rfl rfl
    · replace hK := mm_in hc hK
      refine mm_iinc C (pc := 8) (v := (l1 + (1 : Int32))) (lv' := [(1, .int (l1 + (1 : Int32))), (2, .int l2)]) 0 dX12_size_8 rfl rfl (by decide) rfl ?_
      refine mm_iload_n C (pc := 11) 1 dX12_size_11 rfl ?_
      refine mm_iload_n C (pc := 12) 1 dX12_size_12 rfl ?_
      refine mm_iconst C (pc := 13) (v := (1 : Int32)) dX12_size_13 (by decide) ?_
      refine mm_isub C (pc := 14) dX12_size_14 ?_
      refine mm_iand C (pc := 15) dX12_size_15 ?_
      refine mm_istore_n C (pc := 16) (i := 2) (lv' := [(2, .int (l2 &&& (l2 - (1 : Int32)))), (1, .int (l1 + (1 : Int32)))]) dX12_size_16 rfl (by decide) rfl ?_
      refine mm_goto C (pc := 17) (tgt := 4) dX12_size_17 (by decide) ?_
      refine mm_sub C [1, 0] rfl ?_
      exact ih _ _ _ hK
def F_X12_size (a0 : Int32) (h : MH) : Option (Int32 × MH) := F_X12_size_4 mm_N (0 : Int32) a0 h
set_option maxRecDepth 20000 in
set_option maxHeartbeats 4000000 in
theorem S_X12_size {d : Nat} (hd : 1 ≤ d) {a0 : Int32} {h : MH} {r : Int32} {hz : MH} (hK : F_X12_size a0 h = some (r, hz)) : mm_M yX12_size cX12_size 3 (some .int) d [.int a0] h (.inr (some (.int r))) hz := by
  refine mm_ofV (by decide +kernel) (by simp [lg_sl, mm_crf, mm_cti, mm_ctl]) (fun V C => ?_)
  rw [show lv_args 0 [.int a0] = [(0, .int a0)] by simp [lv_args, mm_crf, mm_cti, mm_ctl]]
  unfold F_X12_size at hK
  refine mm_iconst C (pc := 0) (v := (0 : Int32)) dX12_size_0 (by decide) ?_
  refine mm_istore_n C (pc := 1) (i := 1) (lv' := [(1, .int (0 : Int32)), (0, .int a0)]) dX12_size_1 rfl (by decide) rfl ?_
  refine mm_iload_n C (pc := 2) 1 dX12_size_2 rfl ?_
  refine mm_istore_n C (pc := 3) (i := 2) (lv' := [(2, .int a0), (1, .int (0 : Int32)), (0, .int a0)]) dX12_size_3 rfl (by decide) rfl ?_
  refine mm_sub C [1, 0] rfl ?_
  exact w_X12_size_4 hd C _ _ _ _ hK
theorem wd_2005 : Cond.fieldLink RX12 85 "CrossedLinesModel" "taped" "I" ∈ lw_good := mm_wd 2005 (by decide +kernel) (by decide +kernel)
def F_X12_feed_76 (k23 : Option Nat → Int32 → Int32 → Int32 → Int32 → Int32 → Int32 → MH → Option (Int32 × MH)) (l0 : Option Nat) (l1 : Int32) (l2 : Int32) (l3 : Int32) (l4 : Int32) (l5 : Int32) (l6 : Int32) (s0 : Int32) (h : MH) : Option (Int32 × MH) := (gR h l0 12 5).bind fun v79 => (gI h l0 12 6).bind fun v83 => (sI h v79 0 v83 (((s0.toUInt32 >>> (((24 : Int32) - ((8 : Int32) * (l6 &&& (3 : Int32)))).toUInt32 &&& Int32.toUInt32 31)).toInt32) &&& (255 : Int32))).bind fun h103 => (gI h103 l0 12 6).bind fun v106 => (pI h103 l0 12 6 (v106 + (1 : Int32))).bind fun h111 => k23 l0 l1 l2 l3 l4 l5 (l6 + (1 : Int32)) h111
set_option maxRecDepth 20000 in
set_option maxHeartbeats 4000000 in
theorem w_X12_feed_76 {d : Nat} {V : Nat → List (Nat × Value) → List Value → MH → Prop} {r : Int32} {hz : MH} {k23 : Option Nat → Int32 → Int32 → Int32 → Int32 → Int32 → Int32 → MH → Option (Int32 × MH)} (hd : 1 ≤ d) (C : mm_C d yX12_feed cX12_feed 8 (some .int) (.inr (some (.int r))) hz V) (q23 : ∀ (x0 : Option Nat) (x1 : Int32) (x2 : Int32) (x3 : Int32) (x4 : Int32) (x5 : Int32) (x6 : Int32) (h : MH), k23 x0 x1 x2 x3 x4 x5 x6 h = some (r, hz) → V 23 [(0, va_rf x0), (1, .int x1), (2, .int x2), (3, .int x3), (4, .int x4), (5, .int x5), (6, .int x6)] [] h) (l0 : Option Nat) (l1 : Int32) (l2 : Int32) (l3 : Int32) (l4 : Int32) (l5 : Int32) (l6 : Int32) (s0 : Int32) (h : MH) (hK : F_X12_feed_76 k23 l0 l1 l2 l3 l4 l5 l6 s0 h = some (r, hz)) : V 76 [(0, va_rf l0), (1, .int l1), (2, .int l2), (3, .int l3), (4, .int l4), (5, .int l5), (6, .int l6)] [.int s0] h := by
  unfold F_X12_feed_76 at hK
  refine mm_istore C (pc := 76) (i := 7) (lv' := [(7, .int s0), (0, va_rf l0), (1, .int l1), (2, .int l2), (3, .int l3), (4, .int l4), (5, .int l5), (6, .int l6)]) dX12_feed_76 (by decide) rfl ?_
  refine mm_aload_n C (pc := 78) 1 dX12_feed_78 rfl ?_
  replace hK := mm_bd hK; obtain ⟨v79, e79, hK⟩ := hK
  refine mm_getr C (pc := 79) (k := 5) inGX12 rfl (by decide) wd_2004 dX12_feed_79 e79 ?_
  refine mm_aload_n C (pc := 82) 1 dX12_feed_82 rfl ?_
  replace hK := mm_bd hK; obtain ⟨v83, e83, hK⟩ := hK
  refine mm_geti C (pc := 83) (k := 6) inGX12 rfl (by decide) wd_2005 dX12_feed_83 e83 ?_
  refine mm_iload C (pc := 86) 0 dX12_feed_86 rfl ?_
  refine mm_bipush C (pc := 88) (v := (24 : Int32)) dX12_feed_88 (by decide) ?_
  refine mm_bipush C (pc := 90) (v := (8 : Int32)) dX12_feed_90 (by decide) ?_
  refine mm_iload C (pc := 92) 7 dX12_feed_92 rfl ?_
  refine mm_iconst C (pc := 94) (v := (3 : Int32)) dX12_feed_94 (by decide) ?_
  refine mm_iand C (pc := 95) dX12_feed_95 ?_
  refine mm_imul C (pc := 96) dX12_feed_96 ?_
  refine mm_isub C (pc := 97) dX12_feed_97 ?_
  refine mm_iushr C (pc := 98) dX12_feed_98 ?_
  refine mm_sipush C (pc := 99) (v := (255 : Int32)) dX12_feed_99 (by decide) ?_
  refine mm_iand C (pc := 102) dX12_feed_102 ?_
  replace hK := mm_bd hK; obtain ⟨h103, e103, hK⟩ := hK
  refine mm_iast C (pc := 103) dX12_feed_103 e103 ?_
  refine mm_aload_n C (pc := 104) 1 dX12_feed_104 rfl ?_
  refine mm_dup C (pc := 105) dX12_feed_105 mm_crf ?_
  replace hK := mm_bd hK; obtain ⟨v106, e106, hK⟩ := hK
  refine mm_geti C (pc := 106) (k := 6) inGX12 rfl (by decide) wd_2005 dX12_feed_106 e106 ?_
  refine mm_iconst C (pc := 109) (v := (1 : Int32)) dX12_feed_109 (by decide) ?_
  refine mm_iadd C (pc := 110) dX12_feed_110 ?_
  replace hK := mm_bd hK; obtain ⟨h111, e111, hK⟩ := hK
  refine mm_puti C (pc := 111) (k := 6) false (fun z => by cases z) inGX12 tyX12 tyX12_ok nmX12 rfl (by decide) wd_2005 rfl rfl dX12_feed_111 e111 ?_
  refine mm_iinc C (pc := 114) (v := (l6 + (1 : Int32))) (lv' := [(6, .int (l6 + (1 : Int32))), (7, .int s0), (0, va_rf l0), (1, .int l1), (2, .int l2), (3, .int l3), (4, .int l4), (5, .int l5)]) 7 dX12_feed_114 rfl rfl (by decide) rfl ?_
  refine mm_goto C (pc := 117) (tgt := 23) dX12_feed_117 (by decide) ?_
  refine mm_sub C [2, 3, 4, 5, 6, 7, 0] rfl ?_
  exact q23 _ _ _ _ _ _ _ _ hK
def F_X12_feed_23 : Nat → Option Nat → Int32 → Int32 → Int32 → Int32 → Int32 → Int32 → MH → Option (Int32 × MH)
  | 0 => fun _ _ _ _ _ _ _ _ => none
  | n + 1 => fun l0 l1 l2 l3 l4 l5 l6 h => if (20 : Int32) ≤ l6 then ((gI h l0 12 6).bind fun v121 => some (v121, h)) else (if (4 : Int32) ≤ l6 then (if (8 : Int32) ≤ l6 then (if (12 : Int32) ≤ l6 then (if (16 : Int32) ≤ l6 then (F_X12_feed_76 (F_X12_feed_23 n) l0 l1 l2 l3 l4 l5 l6 l5 h) else (F_X12_feed_76 (F_X12_feed_23 n) l0 l1 l2 l3 l4 l5 l6 l4 h)) else (F_X12_feed_76 (F_X12_feed_23 n) l0 l1 l2 l3 l4 l5 l6 l3 h)) else (F_X12_feed_76 (F_X12_feed_23 n) l0 l1 l2 l3 l4 l5 l6 l2 h)) else (F_X12_feed_76 (F_X12_feed_23 n) l0 l1 l2 l3 l4 l5 l6 l1 h))
set_option maxRecDepth 20000 in
set_option maxHeartbeats 4000000 in
theorem w_X12_feed_23 {d : Nat} {V : Nat → List (Nat × Value) → List Value → MH → Prop} {r : Int32} {hz : MH} (hd : 1 ≤ d) (C : mm_C d yX12_feed cX12_feed 8 (some .int) (.inr (some (.int r))) hz V) : ∀ (n : Nat) (l0 : Option Nat) (l1 : Int32) (l2 : Int32) (l3 : Int32) (l4 : Int32) (l5 : Int32) (l6 : Int32) (h : MH), F_X12_feed_23 n l0 l1 l2 l3 l4 l5 l6 h = some (r, hz) → V 23 [(0, va_rf l0), (1, .int l1), (2, .int l2), (3, .int l3), (4, .int l4), (5, .int l5), (6, .int l6)] [] h := by
  intro n
  induction n with
  | zero => intro l0 l1 l2 l3 l4 l5 l6 h hK; cases hK
  | succ n ih =>
    intro l0 l1 l2 l3 l4 l5 l6 h hK
    replace hK : (if (20 : Int32) ≤ l6 then ((gI h l0 12 6).bind fun v121 => some (v121, h)) else (if (4 : Int32) ≤ l6 then (if (8 : Int32) ≤ l6 then (if (12 : Int32) ≤ l6 then (if (16 : Int32) ≤ l6 then (F_X12_feed_76 (F_X12_feed_23 n) l0 l1 l2 l3 l4 l5 l6 l5 h) else (F_X12_feed_76 (F_X12_feed_23 n) l0 l1 l2 l3 l4 l5 l6 l4 h)) else (F_X12_feed_76 (F_X12_feed_23 n) l0 l1 l2 l3 l4 l5 l6 l3 h)) else (F_X12_feed_76 (F_X12_feed_23 n) l0 l1 l2 l3 l4 l5 l6 l2 h)) else (F_X12_feed_76 (F_X12_feed_23 n) l0 l1 l2 l3 l4 l5 l6 l1 h))) = some (r, hz) := hK
    refine mm_iload C (pc := 23) 6 dX12_feed_23 rfl ?_
    refine mm_bipush C (pc := 25) (v := (20 : Int32)) dX12_feed_25 (by decide) ?_
    refine mm_icmp_ge C (pc := 27) (tgt := 120) dX12_feed_27 (by decide) (fun hc => ?_) (fun hc => ?_)
    · replace hK := mm_ip hc hK
      refine mm_aload_n C (pc := 120) 0 dX12_feed_120 rfl ?_
      replace hK := mm_bd hK; obtain ⟨v121, e121, hK⟩ := hK
      refine mm_geti C (pc := 121) (k := 6) inGX12 rfl (by decide) wd_2005 dX12_feed_121 e121 ?_
      cases hK
      exact mm_iret C (pc := 124) rfl dX12_feed_124 rfl rfl
    · replace hK := mm_in hc hK
      refine mm_iload C (pc := 30) 6 dX12_feed_30 rfl ?_
      refine mm_iconst C (pc := 32) (v := (4 : Int32)) dX12_feed_32 (by decide) ?_
      refine mm_icmp_ge C (pc := 33) (tgt := 40) dX12_feed_33 (by decide) (fun hc => ?_) (fun hc => ?_)
      · replace hK := mm_ip hc hK
        refine mm_iload C (pc := 40) 6 dX12_feed_40 rfl ?_
        refine mm_bipush C (pc := 42) (v := (8 : Int32)) dX12_feed_42 (by decide) ?_
        refine mm_icmp_ge C (pc := 44) (tgt := 51) dX12_feed_44 (by decide) (fun hc => ?_) (fun hc => ?_)
        · replace hK := mm_ip hc hK
          refine mm_iload C (pc := 51) 6 dX12_feed_51 rfl ?_
          refine mm_bipush C (pc := 53) (v := (12 : Int32)) dX12_feed_53 (by decide) ?_
          refine mm_icmp_ge C (pc := 55) (tgt := 62) dX12_feed_55 (by decide) (fun hc => ?_) (fun hc => ?_)
          · replace hK := mm_ip hc hK
            refine mm_iload C (pc := 62) 6 dX12_feed_62 rfl ?_
            refine mm_bipush C (pc := 64) (v := (16 : Int32)) dX12_feed_64 (by decide) ?_
            refine mm_icmp_ge C (pc := 66) (tgt := 74) dX12_feed_66 (by decide) (fun hc => ?_) (fun hc => ?_)
            · replace hK := mm_ip hc hK
              refine mm_iload C (pc := 74) 5 dX12_feed_74 rfl ?_
              exact w_X12_feed_76 hd C (fun z0 z1 z2 z3 z4 z5 z6 z7 hK => ih z0 z1 z2 z3 z4 z5 z6 z7 hK) _ _ _ _ _ _ _ _ _ hK
            · replace hK := mm_in hc hK
              refine mm_iload C (pc := 69) 4 dX12_feed_69 rfl ?_
              refine mm_goto C (pc := 71) (tgt := 76) dX12_feed_71 (by decide) ?_
              exact w_X12_feed_76 hd C (fun z0 z1 z2 z3 z4 z5 z6 z7 hK => ih z0 z1 z2 z3 z4 z5 z6 z7 hK) _ _ _ _ _ _ _ _ _ hK
          · replace hK := mm_in hc hK
            refine mm_iload_n C (pc := 58) 3 dX12_feed_58 rfl ?_
            refine mm_goto C (pc := 59) (tgt := 76) dX12_feed_59 (by decide) ?_
            exact w_X12_feed_76 hd C (fun z0 z1 z2 z3 z4 z5 z6 z7 hK => ih z0 z1 z2 z3 z4 z5 z6 z7 hK) _ _ _ _ _ _ _ _ _ hK
        · replace hK := mm_in hc hK
          refine mm_iload_n C (pc := 47) 2 dX12_feed_47 rfl ?_
          refine mm_goto C (pc := 48) (tgt := 76) dX12_feed_48 (by decide) ?_
          exact w_X12_feed_76 hd C (fun z0 z1 z2 z3 z4 z5 z6 z7 hK => ih z0 z1 z2 z3 z4 z5 z6 z7 hK) _ _ _ _ _ _ _ _ _ hK
      · replace hK := mm_in hc hK
        refine mm_iload_n C (pc := 36) 1 dX12_feed_36 rfl ?_
        refine mm_goto C (pc := 37) (tgt := 76) dX12_feed_37 (by decide) ?_
        exact w_X12_feed_76 hd C (fun z0 z1 z2 z3 z4 z5 z6 z7 hK => ih z0 z1 z2 z3 z4 z5 z6 z7 hK) _ _ _ _ _ _ _ _ _ hK
def F_X12_feed (a0 : Option Nat) (a1 : Int32) (a2 : Int32) (a3 : Int32) (a4 : Int32) (a5 : Int32) (h : MH) : Option (Int32 × MH) := (pI h a0 12 4 (0 : Int32)).bind fun h2 => (gI h2 a0 12 6).bind fun v6 => if (v6 + (20 : Int32)) ≤ (900 : Int32) then (F_X12_feed_23 mm_N a0 a1 a2 a3 a4 a5 (0 : Int32) h2) else (some (((-1) : Int32), h2))
set_option maxRecDepth 20000 in
set_option maxHeartbeats 4000000 in
theorem S_X12_feed {d : Nat} (hd : 1 ≤ d) {a0 : Option Nat} {a1 : Int32} {a2 : Int32} {a3 : Int32} {a4 : Int32} {a5 : Int32} {h : MH} {r : Int32} {hz : MH} (hK : F_X12_feed a0 a1 a2 a3 a4 a5 h = some (r, hz)) : mm_M yX12_feed cX12_feed 8 (some .int) d [va_rf a0, .int a1, .int a2, .int a3, .int a4, .int a5] h (.inr (some (.int r))) hz := by
  refine mm_ofV (by decide +kernel) (by simp [lg_sl, mm_crf, mm_cti, mm_ctl]) (fun V C => ?_)
  rw [show lv_args 0 [va_rf a0, .int a1, .int a2, .int a3, .int a4, .int a5] = [(0, va_rf a0), (1, .int a1), (2, .int a2), (3, .int a3), (4, .int a4), (5, .int a5)] by simp [lv_args, mm_crf, mm_cti, mm_ctl]]
  unfold F_X12_feed at hK
  refine mm_aload_n C (pc := 0) 0 dX12_feed_0 rfl ?_
  refine mm_iconst C (pc := 1) (v := (0 : Int32)) dX12_feed_1 (by decide) ?_
  replace hK := mm_bd hK; obtain ⟨h2, e2, hK⟩ := hK
  refine mm_puti C (pc := 2) (k := 4) false (fun z => by cases z) inGX12 tyX12 tyX12_ok nmX12 rfl (by decide) wd_2003 rfl rfl dX12_feed_2 e2 ?_
  refine mm_aload_n C (pc := 5) 0 dX12_feed_5 rfl ?_
  replace hK := mm_bd hK; obtain ⟨v6, e6, hK⟩ := hK
  refine mm_geti C (pc := 6) (k := 6) inGX12 rfl (by decide) wd_2005 dX12_feed_6 e6 ?_
  refine mm_bipush C (pc := 9) (v := (20 : Int32)) dX12_feed_9 (by decide) ?_
  refine mm_iadd C (pc := 11) dX12_feed_11 ?_
  refine mm_sipush C (pc := 12) (v := (900 : Int32)) dX12_feed_12 (by decide) ?_
  refine mm_icmp_le C (pc := 15) (tgt := 20) dX12_feed_15 (by decide) (fun hc => ?_) (fun hc => ?_)
  · replace hK := mm_ip hc hK
    refine mm_iconst C (pc := 20) (v := (0 : Int32)) dX12_feed_20 (by decide) ?_
    refine mm_istore C (pc := 21) (i := 6) (lv' := [(6, .int (0 : Int32)), (0, va_rf a0), (1, .int a1), (2, .int a2), (3, .int a3), (4, .int a4), (5, .int a5)]) dX12_feed_21 (by decide) rfl ?_
    refine mm_sub C [1, 2, 3, 4, 5, 6, 0] rfl ?_
    exact w_X12_feed_23 hd C _ _ _ _ _ _ _ _ _ hK
  · replace hK := mm_in hc hK
    refine mm_iconst C (pc := 18) (v := ((-1) : Int32)) dX12_feed_18 (by decide) ?_
    cases hK
    exact mm_iret C (pc := 19) rfl dX12_feed_19 rfl rfl
theorem wd_2006 : Cond.fieldLink RX12 88 "CrossedLinesModel" "length" "I" ∈ lw_good := mm_wd 2006 (by decide +kernel) (by decide +kernel)
def F_X12_see_18 (s0 : Int32) (h : MH) : Option (Int32 × MH) := some (s0, h)
set_option maxRecDepth 20000 in
set_option maxHeartbeats 4000000 in
theorem w_X12_see_18 {d : Nat} {V : Nat → List (Nat × Value) → List Value → MH → Prop} {r : Int32} {hz : MH} (hd : 1 ≤ d) (C : mm_C d yX12_see cX12_see 2 (some .int) (.inr (some (.int r))) hz V) (s0 : Int32) (h : MH) (hK : F_X12_see_18 s0 h = some (r, hz)) : V 18 [] [.int s0] h := by
  unfold F_X12_see_18 at hK
  cases hK
  exact mm_iret C (pc := 18) rfl dX12_see_18 rfl rfl
def F_X12_see (a0 : Option Nat) (a1 : Int32) (h : MH) : Option (Int32 × MH) := (gI h a0 12 7).bind fun v2 => if v2 ≤ a1 then (F_X12_see_18 (0 : Int32) h) else ((gR h a0 12 5).bind fun v9 => (aI h v9 0 a1).bind fun v13 => F_X12_see_18 v13 h)
set_option maxRecDepth 20000 in
set_option maxHeartbeats 4000000 in
theorem S_X12_see {d : Nat} (hd : 1 ≤ d) {a0 : Option Nat} {a1 : Int32} {h : MH} {r : Int32} {hz : MH} (hK : F_X12_see a0 a1 h = some (r, hz)) : mm_M yX12_see cX12_see 2 (some .int) d [va_rf a0, .int a1] h (.inr (some (.int r))) hz := by
  refine mm_ofV (by decide +kernel) (by simp [lg_sl, mm_crf, mm_cti, mm_ctl]) (fun V C => ?_)
  rw [show lv_args 0 [va_rf a0, .int a1] = [(0, va_rf a0), (1, .int a1)] by simp [lv_args, mm_crf, mm_cti, mm_ctl]]
  unfold F_X12_see at hK
  refine mm_iload_n C (pc := 0) 1 dX12_see_0 rfl ?_
  refine mm_aload_n C (pc := 1) 0 dX12_see_1 rfl ?_
  replace hK := mm_bd hK; obtain ⟨v2, e2, hK⟩ := hK
  refine mm_geti C (pc := 2) (k := 7) inGX12 rfl (by decide) wd_2006 dX12_see_2 e2 ?_
  refine mm_icmp_ge C (pc := 5) (tgt := 17) dX12_see_5 (by decide) (fun hc => ?_) (fun hc => ?_)
  · replace hK := mm_ip hc hK
    refine mm_iconst C (pc := 17) (v := (0 : Int32)) dX12_see_17 (by decide) ?_
    refine mm_sub C [] rfl ?_
    exact w_X12_see_18 hd C _ _ hK
  · replace hK := mm_in hc hK
    refine mm_aload_n C (pc := 8) 0 dX12_see_8 rfl ?_
    replace hK := mm_bd hK; obtain ⟨v9, e9, hK⟩ := hK
    refine mm_getr C (pc := 9) (k := 5) inGX12 rfl (by decide) wd_2004 dX12_see_9 e9 ?_
    refine mm_iload_n C (pc := 12) 1 dX12_see_12 rfl ?_
    replace hK := mm_bd hK; obtain ⟨v13, e13, hK⟩ := hK
    refine mm_iald C (pc := 13) dX12_see_13 e13 ?_
    refine mm_goto C (pc := 14) (tgt := 18) dX12_see_14 (by decide) ?_
    refine mm_sub C [] rfl ?_
    exact w_X12_see_18 hd C _ _ hK
def F_X12_isLetter_17 (s0 : Int32) (h : MH) : Option (Int32 × MH) := rZ s0 h
set_option maxRecDepth 20000 in
set_option maxHeartbeats 4000000 in
theorem w_X12_isLetter_17 {d : Nat} {V : Nat → List (Nat × Value) → List Value → MH → Prop} {r : Int32} {hz : MH} (hd : 1 ≤ d) (C : mm_C d yX12_isLetter cX12_isLetter 1 (some .boolean) (.inr (some (.int r))) hz V) (s0 : Int32) (h : MH) (hK : F_X12_isLetter_17 s0 h = some (r, hz)) : V 17 [] [.int s0] h := by
  unfold F_X12_isLetter_17 at hK
  replace hK := rZ_some hK; obtain ⟨hv17, hK⟩ := hK
  cases hK
  exact mm_zret C (pc := 17) rfl (mm_nrZ hv17) dX12_isLetter_17 rfl rfl
def F_X12_isLetter_16 (h : MH) : Option (Int32 × MH) := F_X12_isLetter_17 (0 : Int32) h
set_option maxRecDepth 20000 in
set_option maxHeartbeats 4000000 in
theorem w_X12_isLetter_16 {d : Nat} {V : Nat → List (Nat × Value) → List Value → MH → Prop} {r : Int32} {hz : MH} (hd : 1 ≤ d) (C : mm_C d yX12_isLetter cX12_isLetter 1 (some .boolean) (.inr (some (.int r))) hz V) (h : MH) (hK : F_X12_isLetter_16  h = some (r, hz)) : V 16 [] [] h := by
  unfold F_X12_isLetter_16 at hK
  refine mm_iconst C (pc := 16) (v := (0 : Int32)) dX12_isLetter_16 (by decide) ?_
  exact w_X12_isLetter_17 hd C _ _ hK
def F_X12_isLetter (a0 : Int32) (h : MH) : Option (Int32 × MH) := if a0 < (97 : Int32) then (F_X12_isLetter_16 h) else (if (122 : Int32) < a0 then (F_X12_isLetter_16 h) else (F_X12_isLetter_17 (1 : Int32) h))
set_option maxRecDepth 20000 in
set_option maxHeartbeats 4000000 in
theorem S_X12_isLetter {d : Nat} (hd : 1 ≤ d) {a0 : Int32} {h : MH} {r : Int32} {hz : MH} (hK : F_X12_isLetter a0 h = some (r, hz)) : mm_M yX12_isLetter cX12_isLetter 1 (some .boolean) d [.int a0] h (.inr (some (.int r))) hz := by
  refine mm_ofV (by decide +kernel) (by simp [lg_sl, mm_crf, mm_cti, mm_ctl]) (fun V C => ?_)
  rw [show lv_args 0 [.int a0] = [(0, .int a0)] by simp [lv_args, mm_crf, mm_cti, mm_ctl]]
  unfold F_X12_isLetter at hK
  refine mm_iload_n C (pc := 0) 0 dX12_isLetter_0 rfl ?_
  refine mm_bipush C (pc := 1) (v := (97 : Int32)) dX12_isLetter_1 (by decide) ?_
  refine mm_icmp_lt C (pc := 3) (tgt := 16) dX12_isLetter_3 (by decide) (fun hc => ?_) (fun hc => ?_)
  · replace hK := mm_ip hc hK
    refine mm_sub C [] rfl ?_
    exact w_X12_isLetter_16 hd C _ hK
  · replace hK := mm_in hc hK
    refine mm_iload_n C (pc := 6) 0 dX12_isLetter_6 rfl ?_
    refine mm_bipush C (pc := 7) (v := (122 : Int32)) dX12_isLetter_7 (by decide) ?_
    refine mm_icmp_gt C (pc := 9) (tgt := 16) dX12_isLetter_9 (by decide) (fun hc => ?_) (fun hc => ?_)
    · replace hK := mm_ip hc hK
      refine mm_sub C [] rfl ?_
      exact w_X12_isLetter_16 hd C _ hK
    · replace hK := mm_in hc hK
      refine mm_iconst C (pc := 12) (v := (1 : Int32)) dX12_isLetter_12 (by decide) ?_
      refine mm_goto C (pc := 13) (tgt := 17) dX12_isLetter_13 (by decide) ?_
      refine mm_sub C [] rfl ?_
      exact w_X12_isLetter_17 hd C _ _ hK
def F_X12_isDigit_17 (s0 : Int32) (h : MH) : Option (Int32 × MH) := rZ s0 h
set_option maxRecDepth 20000 in
set_option maxHeartbeats 4000000 in
theorem w_X12_isDigit_17 {d : Nat} {V : Nat → List (Nat × Value) → List Value → MH → Prop} {r : Int32} {hz : MH} (hd : 1 ≤ d) (C : mm_C d yX12_isDigit cX12_isDigit 1 (some .boolean) (.inr (some (.int r))) hz V) (s0 : Int32) (h : MH) (hK : F_X12_isDigit_17 s0 h = some (r, hz)) : V 17 [] [.int s0] h := by
  unfold F_X12_isDigit_17 at hK
  replace hK := rZ_some hK; obtain ⟨hv17, hK⟩ := hK
  cases hK
  exact mm_zret C (pc := 17) rfl (mm_nrZ hv17) dX12_isDigit_17 rfl rfl
def F_X12_isDigit_16 (h : MH) : Option (Int32 × MH) := F_X12_isDigit_17 (0 : Int32) h
set_option maxRecDepth 20000 in
set_option maxHeartbeats 4000000 in
theorem w_X12_isDigit_16 {d : Nat} {V : Nat → List (Nat × Value) → List Value → MH → Prop} {r : Int32} {hz : MH} (hd : 1 ≤ d) (C : mm_C d yX12_isDigit cX12_isDigit 1 (some .boolean) (.inr (some (.int r))) hz V) (h : MH) (hK : F_X12_isDigit_16  h = some (r, hz)) : V 16 [] [] h := by
  unfold F_X12_isDigit_16 at hK
  refine mm_iconst C (pc := 16) (v := (0 : Int32)) dX12_isDigit_16 (by decide) ?_
  exact w_X12_isDigit_17 hd C _ _ hK
def F_X12_isDigit (a0 : Int32) (h : MH) : Option (Int32 × MH) := if a0 < (48 : Int32) then (F_X12_isDigit_16 h) else (if (57 : Int32) < a0 then (F_X12_isDigit_16 h) else (F_X12_isDigit_17 (1 : Int32) h))
set_option maxRecDepth 20000 in
set_option maxHeartbeats 4000000 in
theorem S_X12_isDigit {d : Nat} (hd : 1 ≤ d) {a0 : Int32} {h : MH} {r : Int32} {hz : MH} (hK : F_X12_isDigit a0 h = some (r, hz)) : mm_M yX12_isDigit cX12_isDigit 1 (some .boolean) d [.int a0] h (.inr (some (.int r))) hz := by
  refine mm_ofV (by decide +kernel) (by simp [lg_sl, mm_crf, mm_cti, mm_ctl]) (fun V C => ?_)
  rw [show lv_args 0 [.int a0] = [(0, .int a0)] by simp [lv_args, mm_crf, mm_cti, mm_ctl]]
  unfold F_X12_isDigit at hK
  refine mm_iload_n C (pc := 0) 0 dX12_isDigit_0 rfl ?_
  refine mm_bipush C (pc := 1) (v := (48 : Int32)) dX12_isDigit_1 (by decide) ?_
  refine mm_icmp_lt C (pc := 3) (tgt := 16) dX12_isDigit_3 (by decide) (fun hc => ?_) (fun hc => ?_)
  · replace hK := mm_ip hc hK
    refine mm_sub C [] rfl ?_
    exact w_X12_isDigit_16 hd C _ hK
  · replace hK := mm_in hc hK
    refine mm_iload_n C (pc := 6) 0 dX12_isDigit_6 rfl ?_
    refine mm_bipush C (pc := 7) (v := (57 : Int32)) dX12_isDigit_7 (by decide) ?_
    refine mm_icmp_gt C (pc := 9) (tgt := 16) dX12_isDigit_9 (by decide) (fun hc => ?_) (fun hc => ?_)
    · replace hK := mm_ip hc hK
      refine mm_sub C [] rfl ?_
      exact w_X12_isDigit_16 hd C _ hK
    · replace hK := mm_in hc hK
      refine mm_iconst C (pc := 12) (v := (1 : Int32)) dX12_isDigit_12 (by decide) ?_
      refine mm_goto C (pc := 13) (tgt := 17) dX12_isDigit_13 (by decide) ?_
      refine mm_sub C [] rfl ?_
      exact w_X12_isDigit_17 hd C _ _ hK
def F_X12_isSignByte_87 (s0 : Int32) (h : MH) : Option (Int32 × MH) := rZ s0 h
set_option maxRecDepth 20000 in
set_option maxHeartbeats 4000000 in
theorem w_X12_isSignByte_87 {d : Nat} {V : Nat → List (Nat × Value) → List Value → MH → Prop} {r : Int32} {hz : MH} (hd : 1 ≤ d) (C : mm_C d yX12_isSignByte cX12_isSignByte 2 (some .boolean) (.inr (some (.int r))) hz V) (s0 : Int32) (h : MH) (hK : F_X12_isSignByte_87 s0 h = some (r, hz)) : V 87 [] [.int s0] h := by
  unfold F_X12_isSignByte_87 at hK
  replace hK := rZ_some hK; obtain ⟨hv87, hK⟩ := hK
  cases hK
  exact mm_zret C (pc := 87) rfl (mm_nrZ hv87) dX12_isSignByte_87 rfl rfl
def F_X12_isSignByte_82 (h : MH) : Option (Int32 × MH) := F_X12_isSignByte_87 (1 : Int32) h
set_option maxRecDepth 20000 in
set_option maxHeartbeats 4000000 in
theorem w_X12_isSignByte_82 {d : Nat} {V : Nat → List (Nat × Value) → List Value → MH → Prop} {r : Int32} {hz : MH} (hd : 1 ≤ d) (C : mm_C d yX12_isSignByte cX12_isSignByte 2 (some .boolean) (.inr (some (.int r))) hz V) (h : MH) (hK : F_X12_isSignByte_82  h = some (r, hz)) : V 82 [] [] h := by
  unfold F_X12_isSignByte_82 at hK
  refine mm_iconst C (pc := 82) (v := (1 : Int32)) dX12_isSignByte_82 (by decide) ?_
  refine mm_goto C (pc := 83) (tgt := 87) dX12_isSignByte_83 (by decide) ?_
  exact w_X12_isSignByte_87 hd C _ _ hK
def F_X12_isSignByte_41 (l0 : Int32) (s0 : Int32) (h : MH) : Option (Int32 × MH) := if s0 = 0 then (if l0 = (59 : Int32) then (F_X12_isSignByte_82 h) else (if l0 = (43 : Int32) then (F_X12_isSignByte_82 h) else (if l0 = (45 : Int32) then (F_X12_isSignByte_82 h) else (if l0 = (42 : Int32) then (F_X12_isSignByte_82 h) else (if l0 = (40 : Int32) then (F_X12_isSignByte_82 h) else (if l0 = (41 : Int32) then (F_X12_isSignByte_82 h) else (F_X12_isSignByte_87 (0 : Int32) h))))))) else (F_X12_isSignByte_82 h)
set_option maxRecDepth 20000 in
set_option maxHeartbeats 4000000 in
theorem w_X12_isSignByte_41 {d : Nat} {V : Nat → List (Nat × Value) → List Value → MH → Prop} {r : Int32} {hz : MH} (hd : 1 ≤ d) (C : mm_C d yX12_isSignByte cX12_isSignByte 2 (some .boolean) (.inr (some (.int r))) hz V) (l0 : Int32) (s0 : Int32) (h : MH) (hK : F_X12_isSignByte_41 l0 s0 h = some (r, hz)) : V 41 [(0, .int l0)] [.int s0] h := by
  unfold F_X12_isSignByte_41 at hK
  refine mm_istore_n C (pc := 41) (i := 1) (lv' := [(1, .int s0), (0, .int l0)]) dX12_isSignByte_41 rfl (by decide) rfl ?_
  refine mm_iload_n C (pc := 42) 0 dX12_isSignByte_42 rfl ?_
  refine mm_if_ne C (pc := 43) (tgt := 82) dX12_isSignByte_43 (by decide) (fun hc => ?_) (fun hc => ?_)
  · replace hK := mm_in hc hK
    refine mm_sub C [] rfl ?_
    exact w_X12_isSignByte_82 hd C _ hK
  · replace hK := mm_ip hc hK
    refine mm_iload_n C (pc := 46) 1 dX12_isSignByte_46 rfl ?_
    refine mm_bipush C (pc := 47) (v := (59 : Int32)) dX12_isSignByte_47 (by decide) ?_
    refine mm_icmp_eq C (pc := 49) (tgt := 82) dX12_isSignByte_49 (by decide) (fun hc => ?_) (fun hc => ?_)
    · replace hK := mm_ip hc hK
      refine mm_sub C [] rfl ?_
      exact w_X12_isSignByte_82 hd C _ hK
    · replace hK := mm_in hc hK
      refine mm_iload_n C (pc := 52) 1 dX12_isSignByte_52 rfl ?_
      refine mm_bipush C (pc := 53) (v := (43 : Int32)) dX12_isSignByte_53 (by decide) ?_
      refine mm_icmp_eq C (pc := 55) (tgt := 82) dX12_isSignByte_55 (by decide) (fun hc => ?_) (fun hc => ?_)
      · replace hK := mm_ip hc hK
        refine mm_sub C [] rfl ?_
        exact w_X12_isSignByte_82 hd C _ hK
      · replace hK := mm_in hc hK
        refine mm_iload_n C (pc := 58) 1 dX12_isSignByte_58 rfl ?_
        refine mm_bipush C (pc := 59) (v := (45 : Int32)) dX12_isSignByte_59 (by decide) ?_
        refine mm_icmp_eq C (pc := 61) (tgt := 82) dX12_isSignByte_61 (by decide) (fun hc => ?_) (fun hc => ?_)
        · replace hK := mm_ip hc hK
          refine mm_sub C [] rfl ?_
          exact w_X12_isSignByte_82 hd C _ hK
        · replace hK := mm_in hc hK
          refine mm_iload_n C (pc := 64) 1 dX12_isSignByte_64 rfl ?_
          refine mm_bipush C (pc := 65) (v := (42 : Int32)) dX12_isSignByte_65 (by decide) ?_
          refine mm_icmp_eq C (pc := 67) (tgt := 82) dX12_isSignByte_67 (by decide) (fun hc => ?_) (fun hc => ?_)
          · replace hK := mm_ip hc hK
            refine mm_sub C [] rfl ?_
            exact w_X12_isSignByte_82 hd C _ hK
          · replace hK := mm_in hc hK
            refine mm_iload_n C (pc := 70) 1 dX12_isSignByte_70 rfl ?_
            refine mm_bipush C (pc := 71) (v := (40 : Int32)) dX12_isSignByte_71 (by decide) ?_
            refine mm_icmp_eq C (pc := 73) (tgt := 82) dX12_isSignByte_73 (by decide) (fun hc => ?_) (fun hc => ?_)
            · replace hK := mm_ip hc hK
              refine mm_sub C [] rfl ?_
              exact w_X12_isSignByte_82 hd C _ hK
            · replace hK := mm_in hc hK
              refine mm_iload_n C (pc := 76) 1 dX12_isSignByte_76 rfl ?_
              refine mm_bipush C (pc := 77) (v := (41 : Int32)) dX12_isSignByte_77 (by decide) ?_
              refine mm_icmp_ne C (pc := 79) (tgt := 86) dX12_isSignByte_79 (by decide) (fun hc => ?_) (fun hc => ?_)
              · replace hK := mm_in hc hK
                refine mm_iconst C (pc := 86) (v := (0 : Int32)) dX12_isSignByte_86 (by decide) ?_
                refine mm_sub C [] rfl ?_
                exact w_X12_isSignByte_87 hd C _ _ hK
              · replace hK := mm_ip hc hK
                refine mm_sub C [] rfl ?_
                exact w_X12_isSignByte_82 hd C _ hK
def F_X12_isSignByte_36 (l0 : Int32) (h : MH) : Option (Int32 × MH) := F_X12_isSignByte_41 l0 (1 : Int32) h
set_option maxRecDepth 20000 in
set_option maxHeartbeats 4000000 in
theorem w_X12_isSignByte_36 {d : Nat} {V : Nat → List (Nat × Value) → List Value → MH → Prop} {r : Int32} {hz : MH} (hd : 1 ≤ d) (C : mm_C d yX12_isSignByte cX12_isSignByte 2 (some .boolean) (.inr (some (.int r))) hz V) (l0 : Int32) (h : MH) (hK : F_X12_isSignByte_36 l0 h = some (r, hz)) : V 36 [(0, .int l0)] [] h := by
  unfold F_X12_isSignByte_36 at hK
  refine mm_iconst C (pc := 36) (v := (1 : Int32)) dX12_isSignByte_36 (by decide) ?_
  refine mm_goto C (pc := 37) (tgt := 41) dX12_isSignByte_37 (by decide) ?_
  exact w_X12_isSignByte_41 hd C _ _ _ hK
def F_X12_isSignByte (a0 : Int32) (h : MH) : Option (Int32 × MH) := if a0 = (91 : Int32) then (F_X12_isSignByte_36 a0 h) else (if a0 = (93 : Int32) then (F_X12_isSignByte_36 a0 h) else (if a0 = (61 : Int32) then (F_X12_isSignByte_36 a0 h) else (if a0 = (60 : Int32) then (F_X12_isSignByte_36 a0 h) else (if a0 = (62 : Int32) then (F_X12_isSignByte_36 a0 h) else (if a0 = (58 : Int32) then (F_X12_isSignByte_36 a0 h) else (F_X12_isSignByte_41 a0 (0 : Int32) h))))))
set_option maxRecDepth 20000 in
set_option maxHeartbeats 4000000 in
theorem S_X12_isSignByte {d : Nat} (hd : 1 ≤ d) {a0 : Int32} {h : MH} {r : Int32} {hz : MH} (hK : F_X12_isSignByte a0 h = some (r, hz)) : mm_M yX12_isSignByte cX12_isSignByte 2 (some .boolean) d [.int a0] h (.inr (some (.int r))) hz := by
  refine mm_ofV (by decide +kernel) (by simp [lg_sl, mm_crf, mm_cti, mm_ctl]) (fun V C => ?_)
  rw [show lv_args 0 [.int a0] = [(0, .int a0)] by simp [lv_args, mm_crf, mm_cti, mm_ctl]]
  unfold F_X12_isSignByte at hK
  refine mm_iload_n C (pc := 0) 0 dX12_isSignByte_0 rfl ?_
  refine mm_bipush C (pc := 1) (v := (91 : Int32)) dX12_isSignByte_1 (by decide) ?_
  refine mm_icmp_eq C (pc := 3) (tgt := 36) dX12_isSignByte_3 (by decide) (fun hc => ?_) (fun hc => ?_)
  · replace hK := mm_ip hc hK
    exact w_X12_isSignByte_36 hd C _ _ hK
  · replace hK := mm_in hc hK
    refine mm_iload_n C (pc := 6) 0 dX12_isSignByte_6 rfl ?_
    refine mm_bipush C (pc := 7) (v := (93 : Int32)) dX12_isSignByte_7 (by decide) ?_
    refine mm_icmp_eq C (pc := 9) (tgt := 36) dX12_isSignByte_9 (by decide) (fun hc => ?_) (fun hc => ?_)
    · replace hK := mm_ip hc hK
      exact w_X12_isSignByte_36 hd C _ _ hK
    · replace hK := mm_in hc hK
      refine mm_iload_n C (pc := 12) 0 dX12_isSignByte_12 rfl ?_
      refine mm_bipush C (pc := 13) (v := (61 : Int32)) dX12_isSignByte_13 (by decide) ?_
      refine mm_icmp_eq C (pc := 15) (tgt := 36) dX12_isSignByte_15 (by decide) (fun hc => ?_) (fun hc => ?_)
      · replace hK := mm_ip hc hK
        exact w_X12_isSignByte_36 hd C _ _ hK
      · replace hK := mm_in hc hK
        refine mm_iload_n C (pc := 18) 0 dX12_isSignByte_18 rfl ?_
        refine mm_bipush C (pc := 19) (v := (60 : Int32)) dX12_isSignByte_19 (by decide) ?_
        refine mm_icmp_eq C (pc := 21) (tgt := 36) dX12_isSignByte_21 (by decide) (fun hc => ?_) (fun hc => ?_)
        · replace hK := mm_ip hc hK
          exact w_X12_isSignByte_36 hd C _ _ hK
        · replace hK := mm_in hc hK
          refine mm_iload_n C (pc := 24) 0 dX12_isSignByte_24 rfl ?_
          refine mm_bipush C (pc := 25) (v := (62 : Int32)) dX12_isSignByte_25 (by decide) ?_
          refine mm_icmp_eq C (pc := 27) (tgt := 36) dX12_isSignByte_27 (by decide) (fun hc => ?_) (fun hc => ?_)
          · replace hK := mm_ip hc hK
            exact w_X12_isSignByte_36 hd C _ _ hK
          · replace hK := mm_in hc hK
            refine mm_iload_n C (pc := 30) 0 dX12_isSignByte_30 rfl ?_
            refine mm_bipush C (pc := 31) (v := (58 : Int32)) dX12_isSignByte_31 (by decide) ?_
            refine mm_icmp_ne C (pc := 33) (tgt := 40) dX12_isSignByte_33 (by decide) (fun hc => ?_) (fun hc => ?_)
            · replace hK := mm_in hc hK
              refine mm_iconst C (pc := 40) (v := (0 : Int32)) dX12_isSignByte_40 (by decide) ?_
              exact w_X12_isSignByte_41 hd C _ _ _ hK
            · replace hK := mm_ip hc hK
              exact w_X12_isSignByte_36 hd C _ _ hK
theorem wd_2007 : Cond.fieldLink RX12 91 "CrossedLinesModel" "head" "I" ∈ lw_good := mm_wd 2007 (by decide +kernel) (by decide +kernel)
theorem wd_2008 : Cond.fieldLink RX12 94 "CrossedLinesModel" "begin" "I" ∈ lw_good := mm_wd 2008 (by decide +kernel) (by decide +kernel)
theorem wd_2170 : Cond.code yX12_isLetter cX12_isLetter 1 (some .boolean) ∈ lw_good := mm_wd 2170 (by decide +kernel) (by decide +kernel)
theorem wd_170 : Cond.initialized RX12 ∈ lw_good := mm_wd 170 (by decide +kernel) (by decide +kernel)
theorem tT_X12_isLetter : mm_T yX12_isLetter cX12_isLetter 1 (some .boolean) 1 := ⟨wd_2170, wd_170, by decide +kernel, by decide +kernel, by decide +kernel, by decide +kernel⟩
theorem wd_2168 : Cond.methodLink RX12 100 yX12_isLetter ∈ lw_good := mm_wd 2168 (by decide +kernel) (by decide +kernel)
theorem wd_2169 : Cond.static yX12_isLetter ∈ lw_good := mm_wd 2169 (by decide +kernel) (by decide +kernel)
theorem wd_2177 : Cond.code yX12_isDigit cX12_isDigit 1 (some .boolean) ∈ lw_good := mm_wd 2177 (by decide +kernel) (by decide +kernel)
theorem tT_X12_isDigit : mm_T yX12_isDigit cX12_isDigit 1 (some .boolean) 1 := ⟨wd_2177, wd_170, by decide +kernel, by decide +kernel, by decide +kernel, by decide +kernel⟩
theorem wd_2175 : Cond.methodLink RX12 108 yX12_isDigit ∈ lw_good := mm_wd 2175 (by decide +kernel) (by decide +kernel)
theorem wd_2176 : Cond.static yX12_isDigit ∈ lw_good := mm_wd 2176 (by decide +kernel) (by decide +kernel)
theorem wd_2180 : Cond.code yX12_isSignByte cX12_isSignByte 2 (some .boolean) ∈ lw_good := mm_wd 2180 (by decide +kernel) (by decide +kernel)
theorem tT_X12_isSignByte : mm_T yX12_isSignByte cX12_isSignByte 2 (some .boolean) 1 := ⟨wd_2180, wd_170, by decide +kernel, by decide +kernel, by decide +kernel, by decide +kernel⟩
theorem wd_2178 : Cond.methodLink RX12 114 yX12_isSignByte ∈ lw_good := mm_wd 2178 (by decide +kernel) (by decide +kernel)
theorem wd_2179 : Cond.static yX12_isSignByte ∈ lw_good := mm_wd 2179 (by decide +kernel) (by decide +kernel)
theorem wd_2009 : Cond.fieldLink RX12 97 "CrossedLinesModel" "token" "I" ∈ lw_good := mm_wd 2009 (by decide +kernel) (by decide +kernel)
theorem wd_2010 : Cond.fieldLink RX12 111 "CrossedLinesModel" "value" "I" ∈ lw_good := mm_wd 2010 (by decide +kernel) (by decide +kernel)
theorem wd_2174 : Cond.code yX12_see cX12_see 2 (some .int) ∈ lw_good := mm_wd 2174 (by decide +kernel) (by decide +kernel)
theorem tT_X12_see : mm_T yX12_see cX12_see 2 (some .int) 1 := ⟨wd_2174, wd_170, by decide +kernel, by decide +kernel, by decide +kernel, by decide +kernel⟩
theorem wd_2171 : Cond.methodLink RX12 104 yX12_see ∈ lw_good := mm_wd 2171 (by decide +kernel) (by decide +kernel)
theorem wd_2173 : Cond.instanceMethod yX12_see ∈ lw_good := mm_wd 2173 (by decide +kernel) (by decide +kernel)
theorem wd_63 : Cond.selects RX12 yX12_see yX12_see ∈ lw_good := mm_wd 63 (by decide +kernel) (by decide +kernel)
def F_X12_readsOn_263 (h : MH) : Option MH := some h
set_option maxRecDepth 20000 in
set_option maxHeartbeats 4000000 in
theorem w_X12_readsOn_263 {d : Nat} {V : Nat → List (Nat × Value) → List Value → MH → Prop} {hz : MH} (hd : 2 ≤ d) (C : mm_C d yX12_readsOn cX12_readsOn 2 none (.inr none) hz V) (h : MH) (hK : F_X12_readsOn_263  h = some hz) : V 263 [] [] h := by
  unfold F_X12_readsOn_263 at hK
  cases hK
  exact mm_vret C (pc := 263) rfl dX12_readsOn_263 rfl rfl
def F_X12_readsOn_250 (l0 : Option Nat) (s0 : Int32) (s1 : Option Nat) (h : MH) : Option MH := (pI h s1 12 10 s0).bind fun h250 => (gI h250 l0 12 8).bind fun v255 => (pI h250 l0 12 8 (v255 + (1 : Int32))).bind fun h260 => F_X12_readsOn_263 h260
set_option maxRecDepth 20000 in
set_option maxHeartbeats 4000000 in
theorem w_X12_readsOn_250 {d : Nat} {V : Nat → List (Nat × Value) → List Value → MH → Prop} {hz : MH} (hd : 2 ≤ d) (C : mm_C d yX12_readsOn cX12_readsOn 2 none (.inr none) hz V) (l0 : Option Nat) (s0 : Int32) (s1 : Option Nat) (h : MH) (hK : F_X12_readsOn_250 l0 s0 s1 h = some hz) : V 250 [(0, va_rf l0)] [.int s0, va_rf s1] h := by
  unfold F_X12_readsOn_250 at hK
  replace hK := mm_bd hK; obtain ⟨h250, e250, hK⟩ := hK
  refine mm_puti C (pc := 250) (k := 10) false (fun z => by cases z) inGX12 tyX12 tyX12_ok nmX12 rfl (by decide) wd_2009 rfl rfl dX12_readsOn_250 e250 ?_
  refine mm_aload_n C (pc := 253) 0 dX12_readsOn_253 rfl ?_
  refine mm_dup C (pc := 254) dX12_readsOn_254 mm_crf ?_
  replace hK := mm_bd hK; obtain ⟨v255, e255, hK⟩ := hK
  refine mm_geti C (pc := 255) (k := 8) inGX12 rfl (by decide) wd_2007 dX12_readsOn_255 e255 ?_
  refine mm_iconst C (pc := 258) (v := (1 : Int32)) dX12_readsOn_258 (by decide) ?_
  refine mm_iadd C (pc := 259) dX12_readsOn_259 ?_
  replace hK := mm_bd hK; obtain ⟨h260, e260, hK⟩ := hK
  refine mm_puti C (pc := 260) (k := 8) false (fun z => by cases z) inGX12 tyX12 tyX12_ok nmX12 rfl (by decide) wd_2007 rfl rfl dX12_readsOn_260 e260 ?_
  refine mm_sub C [] rfl ?_
  exact w_X12_readsOn_263 hd C _ hK
def F_X12_readsOn_231 (s0 : Int32) (s1 : Option Nat) (h : MH) : Option MH := (pI h s1 12 10 s0).bind fun h231 => F_X12_readsOn_263 h231
set_option maxRecDepth 20000 in
set_option maxHeartbeats 4000000 in
theorem w_X12_readsOn_231 {d : Nat} {V : Nat → List (Nat × Value) → List Value → MH → Prop} {hz : MH} (hd : 2 ≤ d) (C : mm_C d yX12_readsOn cX12_readsOn 2 none (.inr none) hz V) (s0 : Int32) (s1 : Option Nat) (h : MH) (hK : F_X12_readsOn_231 s0 s1 h = some hz) : V 231 [] [.int s0, va_rf s1] h := by
  unfold F_X12_readsOn_231 at hK
  replace hK := mm_bd hK; obtain ⟨h231, e231, hK⟩ := hK
  refine mm_puti C (pc := 231) (k := 10) false (fun z => by cases z) inGX12 tyX12 tyX12_ok nmX12 rfl (by decide) wd_2009 rfl rfl dX12_readsOn_231 e231 ?_
  refine mm_goto C (pc := 234) (tgt := 263) dX12_readsOn_234 (by decide) ?_
  exact w_X12_readsOn_263 hd C _ hK
def F_X12_readsOn_196 (k141 : Option Nat → MH → Option MH) (l0 : Option Nat) (s0 : Int32) (s1 : Option Nat) (h : MH) : Option MH := (pI h s1 12 11 s0).bind fun h196 => (gI h196 l0 12 8).bind fun v201 => (pI h196 l0 12 8 (v201 + (1 : Int32))).bind fun h206 => k141 l0 h206
set_option maxRecDepth 20000 in
set_option maxHeartbeats 4000000 in
theorem w_X12_readsOn_196 {d : Nat} {V : Nat → List (Nat × Value) → List Value → MH → Prop} {hz : MH} {k141 : Option Nat → MH → Option MH} (hd : 2 ≤ d) (C : mm_C d yX12_readsOn cX12_readsOn 2 none (.inr none) hz V) (q141 : ∀ (x0 : Option Nat) (h : MH), k141 x0 h = some hz → V 141 [(0, va_rf x0)] [] h) (l0 : Option Nat) (s0 : Int32) (s1 : Option Nat) (h : MH) (hK : F_X12_readsOn_196 k141 l0 s0 s1 h = some hz) : V 196 [(0, va_rf l0)] [.int s0, va_rf s1] h := by
  unfold F_X12_readsOn_196 at hK
  replace hK := mm_bd hK; obtain ⟨h196, e196, hK⟩ := hK
  refine mm_puti C (pc := 196) (k := 11) false (fun z => by cases z) inGX12 tyX12 tyX12_ok nmX12 rfl (by decide) wd_2010 rfl rfl dX12_readsOn_196 e196 ?_
  refine mm_aload_n C (pc := 199) 0 dX12_readsOn_199 rfl ?_
  refine mm_dup C (pc := 200) dX12_readsOn_200 mm_crf ?_
  replace hK := mm_bd hK; obtain ⟨v201, e201, hK⟩ := hK
  refine mm_geti C (pc := 201) (k := 8) inGX12 rfl (by decide) wd_2007 dX12_readsOn_201 e201 ?_
  refine mm_iconst C (pc := 204) (v := (1 : Int32)) dX12_readsOn_204 (by decide) ?_
  refine mm_iadd C (pc := 205) dX12_readsOn_205 ?_
  replace hK := mm_bd hK; obtain ⟨h206, e206, hK⟩ := hK
  refine mm_puti C (pc := 206) (k := 8) false (fun z => by cases z) inGX12 tyX12 tyX12_ok nmX12 rfl (by decide) wd_2007 rfl rfl dX12_readsOn_206 e206 ?_
  refine mm_goto C (pc := 209) (tgt := 141) dX12_readsOn_209 (by decide) ?_
  exact q141 _ _ hK
def F_X12_readsOn_141 : Nat → Option Nat → MH → Option MH
  | 0 => fun _ _ => none
  | n + 1 => fun l0 h => (gI h l0 12 8).bind fun v143 => mm_b2 (cV h l0 12 (F_X12_see l0 v143 h)) fun v146 h146 => mm_b2 (F_X12_isDigit v146 h146) fun v149 h149 => if v149 = 0 then ((gI h149 l0 12 8).bind fun v214 => (gI h149 l0 12 9).bind fun v218 => if (v214 - v218) ≤ (3 : Int32) then (F_X12_readsOn_231 (2 : Int32) l0 h149) else (F_X12_readsOn_231 (3 : Int32) l0 h149)) else ((gI h149 l0 12 8).bind fun v157 => (gI h149 l0 12 9).bind fun v161 => if (3 : Int32) ≤ (v157 - v161) then ((gI h149 l0 12 11).bind fun v193 => F_X12_readsOn_196 (F_X12_readsOn_141 n) l0 v193 l0 h149) else ((gI h149 l0 12 11).bind fun v172 => (gR h149 l0 12 5).bind fun v177 => (gI h149 l0 12 8).bind fun v181 => (aI h149 v177 0 v181).bind fun v184 => F_X12_readsOn_196 (F_X12_readsOn_141 n) l0 ((((10 : Int32) * v172) + v184) - (48 : Int32)) l0 h149))
set_option maxRecDepth 20000 in
set_option maxHeartbeats 4000000 in
theorem w_X12_readsOn_141 {d : Nat} {V : Nat → List (Nat × Value) → List Value → MH → Prop} {hz : MH} (hd : 2 ≤ d) (C : mm_C d yX12_readsOn cX12_readsOn 2 none (.inr none) hz V) : ∀ (n : Nat) (l0 : Option Nat) (h : MH), F_X12_readsOn_141 n l0 h = some hz → V 141 [(0, va_rf l0)] [] h := by
  intro n
  induction n with
  | zero => intro l0 h hK; cases hK
  | succ n ih =>
    intro l0 h hK
    replace hK : ((gI h l0 12 8).bind fun v143 => mm_b2 (cV h l0 12 (F_X12_see l0 v143 h)) fun v146 h146 => mm_b2 (F_X12_isDigit v146 h146) fun v149 h149 => if v149 = 0 then ((gI h149 l0 12 8).bind fun v214 => (gI h149 l0 12 9).bind fun v218 => if (v214 - v218) ≤ (3 : Int32) then (F_X12_readsOn_231 (2 : Int32) l0 h149) else (F_X12_readsOn_231 (3 : Int32) l0 h149)) else ((gI h149 l0 12 8).bind fun v157 => (gI h149 l0 12 9).bind fun v161 => if (3 : Int32) ≤ (v157 - v161) then ((gI h149 l0 12 11).bind fun v193 => F_X12_readsOn_196 (F_X12_readsOn_141 n) l0 v193 l0 h149) else ((gI h149 l0 12 11).bind fun v172 => (gR h149 l0 12 5).bind fun v177 => (gI h149 l0 12 8).bind fun v181 => (aI h149 v177 0 v181).bind fun v184 => F_X12_readsOn_196 (F_X12_readsOn_141 n) l0 ((((10 : Int32) * v172) + v184) - (48 : Int32)) l0 h149))) = some hz := hK
    refine mm_aload_n C (pc := 141) 0 dX12_readsOn_141 rfl ?_
    refine mm_aload_n C (pc := 142) 0 dX12_readsOn_142 rfl ?_
    replace hK := mm_bd hK; obtain ⟨v143, e143, hK⟩ := hK
    refine mm_geti C (pc := 143) (k := 8) inGX12 rfl (by decide) wd_2007 dX12_readsOn_143 e143 ?_
    replace hK := mm_b2s hK; obtain ⟨v146, h146, e146, hK⟩ := hK
    obtain ⟨o146, e146⟩ := cV_some e146
    refine mm_callV C (pc := 146) (d1 := 1) (As := [.int v143]) (st := []) (vk := (some (.int v146))) ((S_X12_see (by omega)) e146) tT_X12_see o146 (Or.inr ⟨_, rfl, rfl⟩) wd_2171 wd_2173 wd_63 (by omega) (by decide) rfl (by simp [mm_crf, mm_cti, mm_ctl]) rfl dX12_readsOn_146 ?_
    show V _ _ (.int v146 :: _) _
    replace hK := mm_b2s hK; obtain ⟨v149, h149, e149, hK⟩ := hK
    refine mm_callS C (pc := 149) (d1 := 1) (As := [.int v146]) (st := []) (vk := (some (.int v149))) ((S_X12_isDigit (by omega)) e149) tT_X12_isDigit wd_2175 wd_2176 (by omega) (by decide) rfl (by simp [mm_crf, mm_cti, mm_ctl]) rfl dX12_readsOn_149 ?_
    show V _ _ (.int v149 :: _) _
    refine mm_if_eq C (pc := 152) (tgt := 212) dX12_readsOn_152 (by decide) (fun hc => ?_) (fun hc => ?_)
    · replace hK := mm_ip hc hK
      refine mm_aload_n C (pc := 212) 0 dX12_readsOn_212 rfl ?_
      refine mm_aload_n C (pc := 213) 0 dX12_readsOn_213 rfl ?_
      replace hK := mm_bd hK; obtain ⟨v214, e214, hK⟩ := hK
      refine mm_geti C (pc := 214) (k := 8) inGX12 rfl (by decide) wd_2007 dX12_readsOn_214 e214 ?_
      refine mm_aload_n C (pc := 217) 0 dX12_readsOn_217 rfl ?_
      replace hK := mm_bd hK; obtain ⟨v218, e218, hK⟩ := hK
      refine mm_geti C (pc := 218) (k := 9) inGX12 rfl (by decide) wd_2008 dX12_readsOn_218 e218 ?_
      refine mm_isub C (pc := 221) dX12_readsOn_221 ?_
      refine mm_iconst C (pc := 222) (v := (3 : Int32)) dX12_readsOn_222 (by decide) ?_
      refine mm_icmp_le C (pc := 223) (tgt := 230) dX12_readsOn_223 (by decide) (fun hc => ?_) (fun hc => ?_)
      · replace hK := mm_ip hc hK
        refine mm_iconst C (pc := 230) (v := (2 : Int32)) dX12_readsOn_230 (by decide) ?_
        refine mm_sub C [] rfl ?_
        exact w_X12_readsOn_231 hd C _ _ _ hK
      · replace hK := mm_in hc hK
        refine mm_iconst C (pc := 226) (v := (3 : Int32)) dX12_readsOn_226 (by decide) ?_
        refine mm_goto C (pc := 227) (tgt := 231) dX12_readsOn_227 (by decide) ?_
        refine mm_sub C [] rfl ?_
        exact w_X12_readsOn_231 hd C _ _ _ hK
    · replace hK := mm_in hc hK
      refine mm_aload_n C (pc := 155) 0 dX12_readsOn_155 rfl ?_
      refine mm_aload_n C (pc := 156) 0 dX12_readsOn_156 rfl ?_
      replace hK := mm_bd hK; obtain ⟨v157, e157, hK⟩ := hK
      refine mm_geti C (pc := 157) (k := 8) inGX12 rfl (by decide) wd_2007 dX12_readsOn_157 e157 ?_
      refine mm_aload_n C (pc := 160) 0 dX12_readsOn_160 rfl ?_
      replace hK := mm_bd hK; obtain ⟨v161, e161, hK⟩ := hK
      refine mm_geti C (pc := 161) (k := 9) inGX12 rfl (by decide) wd_2008 dX12_readsOn_161 e161 ?_
      refine mm_isub C (pc := 164) dX12_readsOn_164 ?_
      refine mm_iconst C (pc := 165) (v := (3 : Int32)) dX12_readsOn_165 (by decide) ?_
      refine mm_icmp_ge C (pc := 166) (tgt := 192) dX12_readsOn_166 (by decide) (fun hc => ?_) (fun hc => ?_)
      · replace hK := mm_ip hc hK
        refine mm_aload_n C (pc := 192) 0 dX12_readsOn_192 rfl ?_
        replace hK := mm_bd hK; obtain ⟨v193, e193, hK⟩ := hK
        refine mm_geti C (pc := 193) (k := 11) inGX12 rfl (by decide) wd_2010 dX12_readsOn_193 e193 ?_
        exact w_X12_readsOn_196 hd C (fun z0 z1 hK => ih z0 z1 hK) _ _ _ _ hK
      · replace hK := mm_in hc hK
        refine mm_bipush C (pc := 169) (v := (10 : Int32)) dX12_readsOn_169 (by decide) ?_
        refine mm_aload_n C (pc := 171) 0 dX12_readsOn_171 rfl ?_
        replace hK := mm_bd hK; obtain ⟨v172, e172, hK⟩ := hK
        refine mm_geti C (pc := 172) (k := 11) inGX12 rfl (by decide) wd_2010 dX12_readsOn_172 e172 ?_
        refine mm_imul C (pc := 175) dX12_readsOn_175 ?_
        refine mm_aload_n C (pc := 176) 0 dX12_readsOn_176 rfl ?_
        replace hK := mm_bd hK; obtain ⟨v177, e177, hK⟩ := hK
        refine mm_getr C (pc := 177) (k := 5) inGX12 rfl (by decide) wd_2004 dX12_readsOn_177 e177 ?_
        refine mm_aload_n C (pc := 180) 0 dX12_readsOn_180 rfl ?_
        replace hK := mm_bd hK; obtain ⟨v181, e181, hK⟩ := hK
        refine mm_geti C (pc := 181) (k := 8) inGX12 rfl (by decide) wd_2007 dX12_readsOn_181 e181 ?_
        replace hK := mm_bd hK; obtain ⟨v184, e184, hK⟩ := hK
        refine mm_iald C (pc := 184) dX12_readsOn_184 e184 ?_
        refine mm_iadd C (pc := 185) dX12_readsOn_185 ?_
        refine mm_bipush C (pc := 186) (v := (48 : Int32)) dX12_readsOn_186 (by decide) ?_
        refine mm_isub C (pc := 188) dX12_readsOn_188 ?_
        refine mm_goto C (pc := 189) (tgt := 196) dX12_readsOn_189 (by decide) ?_
        exact w_X12_readsOn_196 hd C (fun z0 z1 hK => ih z0 z1 hK) _ _ _ _ hK
def F_X12_readsOn_94 : Nat → Option Nat → MH → Option MH
  | 0 => fun _ _ => none
  | n + 1 => fun l0 h => (gI h l0 12 8).bind fun v96 => mm_b2 (cV h l0 12 (F_X12_see l0 v96 h)) fun v99 h99 => mm_b2 (F_X12_isLetter v99 h99) fun v102 h102 => if v102 = 0 then ((pI h102 l0 12 10 (1 : Int32)).bind fun h123 => F_X12_readsOn_263 h123) else ((gI h102 l0 12 8).bind fun v110 => (pI h102 l0 12 8 (v110 + (1 : Int32))).bind fun h115 => F_X12_readsOn_94 n l0 h115)
set_option maxRecDepth 20000 in
set_option maxHeartbeats 4000000 in
theorem w_X12_readsOn_94 {d : Nat} {V : Nat → List (Nat × Value) → List Value → MH → Prop} {hz : MH} (hd : 2 ≤ d) (C : mm_C d yX12_readsOn cX12_readsOn 2 none (.inr none) hz V) : ∀ (n : Nat) (l0 : Option Nat) (h : MH), F_X12_readsOn_94 n l0 h = some hz → V 94 [(0, va_rf l0)] [] h := by
  intro n
  induction n with
  | zero => intro l0 h hK; cases hK
  | succ n ih =>
    intro l0 h hK
    replace hK : ((gI h l0 12 8).bind fun v96 => mm_b2 (cV h l0 12 (F_X12_see l0 v96 h)) fun v99 h99 => mm_b2 (F_X12_isLetter v99 h99) fun v102 h102 => if v102 = 0 then ((pI h102 l0 12 10 (1 : Int32)).bind fun h123 => F_X12_readsOn_263 h123) else ((gI h102 l0 12 8).bind fun v110 => (pI h102 l0 12 8 (v110 + (1 : Int32))).bind fun h115 => F_X12_readsOn_94 n l0 h115)) = some hz := hK
    refine mm_aload_n C (pc := 94) 0 dX12_readsOn_94 rfl ?_
    refine mm_aload_n C (pc := 95) 0 dX12_readsOn_95 rfl ?_
    replace hK := mm_bd hK; obtain ⟨v96, e96, hK⟩ := hK
    refine mm_geti C (pc := 96) (k := 8) inGX12 rfl (by decide) wd_2007 dX12_readsOn_96 e96 ?_
    replace hK := mm_b2s hK; obtain ⟨v99, h99, e99, hK⟩ := hK
    obtain ⟨o99, e99⟩ := cV_some e99
    refine mm_callV C (pc := 99) (d1 := 1) (As := [.int v96]) (st := []) (vk := (some (.int v99))) ((S_X12_see (by omega)) e99) tT_X12_see o99 (Or.inr ⟨_, rfl, rfl⟩) wd_2171 wd_2173 wd_63 (by omega) (by decide) rfl (by simp [mm_crf, mm_cti, mm_ctl]) rfl dX12_readsOn_99 ?_
    show V _ _ (.int v99 :: _) _
    replace hK := mm_b2s hK; obtain ⟨v102, h102, e102, hK⟩ := hK
    refine mm_callS C (pc := 102) (d1 := 1) (As := [.int v99]) (st := []) (vk := (some (.int v102))) ((S_X12_isLetter (by omega)) e102) tT_X12_isLetter wd_2168 wd_2169 (by omega) (by decide) rfl (by simp [mm_crf, mm_cti, mm_ctl]) rfl dX12_readsOn_102 ?_
    show V _ _ (.int v102 :: _) _
    refine mm_if_eq C (pc := 105) (tgt := 121) dX12_readsOn_105 (by decide) (fun hc => ?_) (fun hc => ?_)
    · replace hK := mm_ip hc hK
      refine mm_aload_n C (pc := 121) 0 dX12_readsOn_121 rfl ?_
      refine mm_iconst C (pc := 122) (v := (1 : Int32)) dX12_readsOn_122 (by decide) ?_
      replace hK := mm_bd hK; obtain ⟨h123, e123, hK⟩ := hK
      refine mm_puti C (pc := 123) (k := 10) false (fun z => by cases z) inGX12 tyX12 tyX12_ok nmX12 rfl (by decide) wd_2009 rfl rfl dX12_readsOn_123 e123 ?_
      refine mm_goto C (pc := 126) (tgt := 263) dX12_readsOn_126 (by decide) ?_
      refine mm_sub C [] rfl ?_
      exact w_X12_readsOn_263 hd C _ hK
    · replace hK := mm_in hc hK
      refine mm_aload_n C (pc := 108) 0 dX12_readsOn_108 rfl ?_
      refine mm_dup C (pc := 109) dX12_readsOn_109 mm_crf ?_
      replace hK := mm_bd hK; obtain ⟨v110, e110, hK⟩ := hK
      refine mm_geti C (pc := 110) (k := 8) inGX12 rfl (by decide) wd_2007 dX12_readsOn_110 e110 ?_
      refine mm_iconst C (pc := 113) (v := (1 : Int32)) dX12_readsOn_113 (by decide) ?_
      refine mm_iadd C (pc := 114) dX12_readsOn_114 ?_
      replace hK := mm_bd hK; obtain ⟨h115, e115, hK⟩ := hK
      refine mm_puti C (pc := 115) (k := 8) false (fun z => by cases z) inGX12 tyX12 tyX12_ok nmX12 rfl (by decide) wd_2007 rfl rfl dX12_readsOn_115 e115 ?_
      refine mm_goto C (pc := 118) (tgt := 94) dX12_readsOn_118 (by decide) ?_
      exact ih _ _ hK
def F_X12_readsOn_52 (l0 : Option Nat) (h : MH) : Option MH := (gI h l0 12 8).bind fun v54 => (pI h l0 12 9 v54).bind fun h57 => (gI h57 l0 12 8).bind fun v61 => (gI h57 l0 12 7).bind fun v65 => if v61 < v65 then ((gR h57 l0 12 5).bind fun v78 => (gI h57 l0 12 8).bind fun v82 => (aI h57 v78 0 v82).bind fun v85 => mm_b2 (F_X12_isLetter v85 h57) fun v88 h88 => if v88 = 0 then (mm_b2 (F_X12_isDigit v85 h88) fun v130 h130 => if v130 = 0 then (mm_b2 (F_X12_isSignByte v85 h130) fun v239 h239 => if v239 = 0 then (F_X12_readsOn_250 l0 (3 : Int32) l0 h239) else (F_X12_readsOn_250 l0 v85 l0 h239)) else ((pI h130 l0 12 11 (0 : Int32)).bind fun h138 => F_X12_readsOn_141 mm_N l0 h138)) else (F_X12_readsOn_94 mm_N l0 h88)) else ((pI h57 l0 12 10 (0 : Int32)).bind fun h73 => some h73)
set_option maxRecDepth 20000 in
set_option maxHeartbeats 4000000 in
theorem w_X12_readsOn_52 {d : Nat} {V : Nat → List (Nat × Value) → List Value → MH → Prop} {hz : MH} (hd : 2 ≤ d) (C : mm_C d yX12_readsOn cX12_readsOn 2 none (.inr none) hz V) (l0 : Option Nat) (h : MH) (hK : F_X12_readsOn_52 l0 h = some hz) : V 52 [(0, va_rf l0)] [] h := by
  unfold F_X12_readsOn_52 at hK
  refine mm_aload_n C (pc := 52) 0 dX12_readsOn_52 rfl ?_
  refine mm_aload_n C (pc := 53) 0 dX12_readsOn_53 rfl ?_
  replace hK := mm_bd hK; obtain ⟨v54, e54, hK⟩ := hK
  refine mm_geti C (pc := 54) (k := 8) inGX12 rfl (by decide) wd_2007 dX12_readsOn_54 e54 ?_
  replace hK := mm_bd hK; obtain ⟨h57, e57, hK⟩ := hK
  refine mm_puti C (pc := 57) (k := 9) false (fun z => by cases z) inGX12 tyX12 tyX12_ok nmX12 rfl (by decide) wd_2008 rfl rfl dX12_readsOn_57 e57 ?_
  refine mm_aload_n C (pc := 60) 0 dX12_readsOn_60 rfl ?_
  replace hK := mm_bd hK; obtain ⟨v61, e61, hK⟩ := hK
  refine mm_geti C (pc := 61) (k := 8) inGX12 rfl (by decide) wd_2007 dX12_readsOn_61 e61 ?_
  refine mm_aload_n C (pc := 64) 0 dX12_readsOn_64 rfl ?_
  replace hK := mm_bd hK; obtain ⟨v65, e65, hK⟩ := hK
  refine mm_geti C (pc := 65) (k := 7) inGX12 rfl (by decide) wd_2006 dX12_readsOn_65 e65 ?_
  refine mm_icmp_lt C (pc := 68) (tgt := 77) dX12_readsOn_68 (by decide) (fun hc => ?_) (fun hc => ?_)
  · replace hK := mm_ip hc hK
    refine mm_aload_n C (pc := 77) 0 dX12_readsOn_77 rfl ?_
    replace hK := mm_bd hK; obtain ⟨v78, e78, hK⟩ := hK
    refine mm_getr C (pc := 78) (k := 5) inGX12 rfl (by decide) wd_2004 dX12_readsOn_78 e78 ?_
    refine mm_aload_n C (pc := 81) 0 dX12_readsOn_81 rfl ?_
    replace hK := mm_bd hK; obtain ⟨v82, e82, hK⟩ := hK
    refine mm_geti C (pc := 82) (k := 8) inGX12 rfl (by decide) wd_2007 dX12_readsOn_82 e82 ?_
    replace hK := mm_bd hK; obtain ⟨v85, e85, hK⟩ := hK
    refine mm_iald C (pc := 85) dX12_readsOn_85 e85 ?_
    refine mm_istore_n C (pc := 86) (i := 1) (lv' := [(1, .int v85), (0, va_rf l0)]) dX12_readsOn_86 rfl (by decide) (by simp [mm_crf]) ?_
    refine mm_iload_n C (pc := 87) 0 dX12_readsOn_87 rfl ?_
    replace hK := mm_b2s hK; obtain ⟨v88, h88, e88, hK⟩ := hK
    refine mm_callS C (pc := 88) (d1 := 1) (As := [.int v85]) (st := []) (vk := (some (.int v88))) ((S_X12_isLetter (by omega)) e88) tT_X12_isLetter wd_2168 wd_2169 (by omega) (by decide) rfl (by simp [mm_crf, mm_cti, mm_ctl]) rfl dX12_readsOn_88 ?_
    show V _ _ (.int v88 :: _) _
    refine mm_if_eq C (pc := 91) (tgt := 129) dX12_readsOn_91 (by decide) (fun hc => ?_) (fun hc => ?_)
    · replace hK := mm_ip hc hK
      refine mm_iload_n C (pc := 129) 0 dX12_readsOn_129 rfl ?_
      replace hK := mm_b2s hK; obtain ⟨v130, h130, e130, hK⟩ := hK
      refine mm_callS C (pc := 130) (d1 := 1) (As := [.int v85]) (st := []) (vk := (some (.int v130))) ((S_X12_isDigit (by omega)) e130) tT_X12_isDigit wd_2175 wd_2176 (by omega) (by decide) rfl (by simp [mm_crf, mm_cti, mm_ctl]) rfl dX12_readsOn_130 ?_
      show V _ _ (.int v130 :: _) _
      refine mm_if_eq C (pc := 133) (tgt := 237) dX12_readsOn_133 (by decide) (fun hc => ?_) (fun hc => ?_)
      · replace hK := mm_ip hc hK
        refine mm_aload_n C (pc := 237) 1 dX12_readsOn_237 rfl ?_
        refine mm_iload_n C (pc := 238) 0 dX12_readsOn_238 rfl ?_
        replace hK := mm_b2s hK; obtain ⟨v239, h239, e239, hK⟩ := hK
        refine mm_callS C (pc := 239) (d1 := 1) (As := [.int v85]) (st := [va_rf l0]) (vk := (some (.int v239))) ((S_X12_isSignByte (by omega)) e239) tT_X12_isSignByte wd_2178 wd_2179 (by omega) (by decide) rfl (by simp [mm_crf, mm_cti, mm_ctl]) rfl dX12_readsOn_239 ?_
        show V _ _ (.int v239 :: _) _
        refine mm_if_eq C (pc := 242) (tgt := 249) dX12_readsOn_242 (by decide) (fun hc => ?_) (fun hc => ?_)
        · replace hK := mm_ip hc hK
          refine mm_iconst C (pc := 249) (v := (3 : Int32)) dX12_readsOn_249 (by decide) ?_
          refine mm_sub C [1] rfl ?_
          exact w_X12_readsOn_250 hd C _ _ _ _ hK
        · replace hK := mm_in hc hK
          refine mm_iload_n C (pc := 245) 0 dX12_readsOn_245 rfl ?_
          refine mm_goto C (pc := 246) (tgt := 250) dX12_readsOn_246 (by decide) ?_
          refine mm_sub C [1] rfl ?_
          exact w_X12_readsOn_250 hd C _ _ _ _ hK
      · replace hK := mm_in hc hK
        refine mm_aload_n C (pc := 136) 1 dX12_readsOn_136 rfl ?_
        refine mm_iconst C (pc := 137) (v := (0 : Int32)) dX12_readsOn_137 (by decide) ?_
        replace hK := mm_bd hK; obtain ⟨h138, e138, hK⟩ := hK
        refine mm_puti C (pc := 138) (k := 11) false (fun z => by cases z) inGX12 tyX12 tyX12_ok nmX12 rfl (by decide) wd_2010 rfl rfl dX12_readsOn_138 e138 ?_
        refine mm_sub C [1] rfl ?_
        exact w_X12_readsOn_141 hd C _ _ _ hK
    · replace hK := mm_in hc hK
      refine mm_sub C [1] rfl ?_
      exact w_X12_readsOn_94 hd C _ _ _ hK
  · replace hK := mm_in hc hK
    refine mm_aload_n C (pc := 71) 0 dX12_readsOn_71 rfl ?_
    refine mm_iconst C (pc := 72) (v := (0 : Int32)) dX12_readsOn_72 (by decide) ?_
    replace hK := mm_bd hK; obtain ⟨h73, e73, hK⟩ := hK
    refine mm_puti C (pc := 73) (k := 10) false (fun z => by cases z) inGX12 tyX12 tyX12_ok nmX12 rfl (by decide) wd_2009 rfl rfl dX12_readsOn_73 e73 ?_
    cases hK
    exact mm_vret C (pc := 76) rfl dX12_readsOn_76 rfl rfl
def F_X12_readsOn_39 (k0 : Option Nat → MH → Option MH) (l0 : Option Nat) (h : MH) : Option MH := (gI h l0 12 8).bind fun v41 => (pI h l0 12 8 (v41 + (1 : Int32))).bind fun h46 => k0 l0 h46
set_option maxRecDepth 20000 in
set_option maxHeartbeats 4000000 in
theorem w_X12_readsOn_39 {d : Nat} {V : Nat → List (Nat × Value) → List Value → MH → Prop} {hz : MH} {k0 : Option Nat → MH → Option MH} (hd : 2 ≤ d) (C : mm_C d yX12_readsOn cX12_readsOn 2 none (.inr none) hz V) (q0 : ∀ (x0 : Option Nat) (h : MH), k0 x0 h = some hz → V 0 [(0, va_rf x0)] [] h) (l0 : Option Nat) (h : MH) (hK : F_X12_readsOn_39 k0 l0 h = some hz) : V 39 [(0, va_rf l0)] [] h := by
  unfold F_X12_readsOn_39 at hK
  refine mm_aload_n C (pc := 39) 0 dX12_readsOn_39 rfl ?_
  refine mm_dup C (pc := 40) dX12_readsOn_40 mm_crf ?_
  replace hK := mm_bd hK; obtain ⟨v41, e41, hK⟩ := hK
  refine mm_geti C (pc := 41) (k := 8) inGX12 rfl (by decide) wd_2007 dX12_readsOn_41 e41 ?_
  refine mm_iconst C (pc := 44) (v := (1 : Int32)) dX12_readsOn_44 (by decide) ?_
  refine mm_iadd C (pc := 45) dX12_readsOn_45 ?_
  replace hK := mm_bd hK; obtain ⟨h46, e46, hK⟩ := hK
  refine mm_puti C (pc := 46) (k := 8) false (fun z => by cases z) inGX12 tyX12 tyX12_ok nmX12 rfl (by decide) wd_2007 rfl rfl dX12_readsOn_46 e46 ?_
  refine mm_goto C (pc := 49) (tgt := 0) dX12_readsOn_49 (by decide) ?_
  exact q0 _ _ hK
def F_X12_readsOn_0 : Nat → Option Nat → MH → Option MH
  | 0 => fun _ _ => none
  | n + 1 => fun l0 h => (gI h l0 12 8).bind fun v1 => (gI h l0 12 7).bind fun v5 => if v5 ≤ v1 then (F_X12_readsOn_52 l0 h) else ((gR h l0 12 5).bind fun v12 => (gI h l0 12 8).bind fun v16 => (aI h v12 0 v16).bind fun v19 => if v19 = (32 : Int32) then (F_X12_readsOn_39 (F_X12_readsOn_0 n) l0 h) else ((gR h l0 12 5).bind fun v26 => (gI h l0 12 8).bind fun v30 => (aI h v26 0 v30).bind fun v33 => if v33 = (10 : Int32) then (F_X12_readsOn_39 (F_X12_readsOn_0 n) l0 h) else (F_X12_readsOn_52 l0 h)))
set_option maxRecDepth 20000 in
set_option maxHeartbeats 4000000 in
theorem w_X12_readsOn_0 {d : Nat} {V : Nat → List (Nat × Value) → List Value → MH → Prop} {hz : MH} (hd : 2 ≤ d) (C : mm_C d yX12_readsOn cX12_readsOn 2 none (.inr none) hz V) : ∀ (n : Nat) (l0 : Option Nat) (h : MH), F_X12_readsOn_0 n l0 h = some hz → V 0 [(0, va_rf l0)] [] h := by
  intro n
  induction n with
  | zero => intro l0 h hK; cases hK
  | succ n ih =>
    intro l0 h hK
    replace hK : ((gI h l0 12 8).bind fun v1 => (gI h l0 12 7).bind fun v5 => if v5 ≤ v1 then (F_X12_readsOn_52 l0 h) else ((gR h l0 12 5).bind fun v12 => (gI h l0 12 8).bind fun v16 => (aI h v12 0 v16).bind fun v19 => if v19 = (32 : Int32) then (F_X12_readsOn_39 (F_X12_readsOn_0 n) l0 h) else ((gR h l0 12 5).bind fun v26 => (gI h l0 12 8).bind fun v30 => (aI h v26 0 v30).bind fun v33 => if v33 = (10 : Int32) then (F_X12_readsOn_39 (F_X12_readsOn_0 n) l0 h) else (F_X12_readsOn_52 l0 h)))) = some hz := hK
    refine mm_aload_n C (pc := 0) 0 dX12_readsOn_0 rfl ?_
    replace hK := mm_bd hK; obtain ⟨v1, e1, hK⟩ := hK
    refine mm_geti C (pc := 1) (k := 8) inGX12 rfl (by decide) wd_2007 dX12_readsOn_1 e1 ?_
    refine mm_aload_n C (pc := 4) 0 dX12_readsOn_4 rfl ?_
    replace hK := mm_bd hK; obtain ⟨v5, e5, hK⟩ := hK
    refine mm_geti C (pc := 5) (k := 7) inGX12 rfl (by decide) wd_2006 dX12_readsOn_5 e5 ?_
    refine mm_icmp_ge C (pc := 8) (tgt := 52) dX12_readsOn_8 (by decide) (fun hc => ?_) (fun hc => ?_)
    · replace hK := mm_ip hc hK
      exact w_X12_readsOn_52 hd C _ _ hK
    · replace hK := mm_in hc hK
      refine mm_aload_n C (pc := 11) 0 dX12_readsOn_11 rfl ?_
      replace hK := mm_bd hK; obtain ⟨v12, e12, hK⟩ := hK
      refine mm_getr C (pc := 12) (k := 5) inGX12 rfl (by decide) wd_2004 dX12_readsOn_12 e12 ?_
      refine mm_aload_n C (pc := 15) 0 dX12_readsOn_15 rfl ?_
      replace hK := mm_bd hK; obtain ⟨v16, e16, hK⟩ := hK
      refine mm_geti C (pc := 16) (k := 8) inGX12 rfl (by decide) wd_2007 dX12_readsOn_16 e16 ?_
      replace hK := mm_bd hK; obtain ⟨v19, e19, hK⟩ := hK
      refine mm_iald C (pc := 19) dX12_readsOn_19 e19 ?_
      refine mm_bipush C (pc := 20) (v := (32 : Int32)) dX12_readsOn_20 (by decide) ?_
      refine mm_icmp_eq C (pc := 22) (tgt := 39) dX12_readsOn_22 (by decide) (fun hc => ?_) (fun hc => ?_)
      · replace hK := mm_ip hc hK
        exact w_X12_readsOn_39 hd C (fun z0 z1 hK => ih z0 z1 hK) _ _ hK
      · replace hK := mm_in hc hK
        refine mm_aload_n C (pc := 25) 0 dX12_readsOn_25 rfl ?_
        replace hK := mm_bd hK; obtain ⟨v26, e26, hK⟩ := hK
        refine mm_getr C (pc := 26) (k := 5) inGX12 rfl (by decide) wd_2004 dX12_readsOn_26 e26 ?_
        refine mm_aload_n C (pc := 29) 0 dX12_readsOn_29 rfl ?_
        replace hK := mm_bd hK; obtain ⟨v30, e30, hK⟩ := hK
        refine mm_geti C (pc := 30) (k := 8) inGX12 rfl (by decide) wd_2007 dX12_readsOn_30 e30 ?_
        replace hK := mm_bd hK; obtain ⟨v33, e33, hK⟩ := hK
        refine mm_iald C (pc := 33) dX12_readsOn_33 e33 ?_
        refine mm_bipush C (pc := 34) (v := (10 : Int32)) dX12_readsOn_34 (by decide) ?_
        refine mm_icmp_ne C (pc := 36) (tgt := 52) dX12_readsOn_36 (by decide) (fun hc => ?_) (fun hc => ?_)
        · replace hK := mm_in hc hK
          exact w_X12_readsOn_52 hd C _ _ hK
        · replace hK := mm_ip hc hK
          exact w_X12_readsOn_39 hd C (fun z0 z1 hK => ih z0 z1 hK) _ _ hK
def F_X12_readsOn (a0 : Option Nat) (h : MH) : Option MH := F_X12_readsOn_0 mm_N a0 h
set_option maxRecDepth 20000 in
set_option maxHeartbeats 4000000 in
theorem S_X12_readsOn {d : Nat} (hd : 2 ≤ d) {a0 : Option Nat} {h : MH} {hz : MH} (hK : F_X12_readsOn a0 h = some hz) : mm_M yX12_readsOn cX12_readsOn 2 none d [va_rf a0] h (.inr none) hz := by
  refine mm_ofV (by decide +kernel) (by simp [lg_sl, mm_crf, mm_cti, mm_ctl]) (fun V C => ?_)
  rw [show lv_args 0 [va_rf a0] = [(0, va_rf a0)] by simp [lv_args, mm_crf, mm_cti, mm_ctl]]
  unfold F_X12_readsOn at hK
  exact w_X12_readsOn_0 hd C _ _ _ hK
theorem wd_2011 : Cond.fieldLink RX12 117 "CrossedLinesModel" "bad" "I" ∈ lw_good := mm_wd 2011 (by decide +kernel) (by decide +kernel)
theorem wd_2012 : Cond.fieldLink RX12 120 "CrossedLinesModel" "badPlace" "I" ∈ lw_good := mm_wd 2012 (by decide +kernel) (by decide +kernel)
def F_X12_blames_22 (l0 : Option Nat) (s0 : Int32) (s1 : Option Nat) (h : MH) : Option MH := (pI h s1 12 12 s0).bind fun h22 => (gI h22 l0 12 9).bind fun v27 => (pI h22 l0 12 13 v27).bind fun h30 => some h30
set_option maxRecDepth 20000 in
set_option maxHeartbeats 4000000 in
theorem w_X12_blames_22 {d : Nat} {V : Nat → List (Nat × Value) → List Value → MH → Prop} {hz : MH} (hd : 1 ≤ d) (C : mm_C d yX12_blames cX12_blames 2 none (.inr none) hz V) (l0 : Option Nat) (s0 : Int32) (s1 : Option Nat) (h : MH) (hK : F_X12_blames_22 l0 s0 s1 h = some hz) : V 22 [(0, va_rf l0)] [.int s0, va_rf s1] h := by
  unfold F_X12_blames_22 at hK
  replace hK := mm_bd hK; obtain ⟨h22, e22, hK⟩ := hK
  refine mm_puti C (pc := 22) (k := 12) false (fun z => by cases z) inGX12 tyX12 tyX12_ok nmX12 rfl (by decide) wd_2011 rfl rfl dX12_blames_22 e22 ?_
  refine mm_aload_n C (pc := 25) 0 dX12_blames_25 rfl ?_
  refine mm_aload_n C (pc := 26) 0 dX12_blames_26 rfl ?_
  replace hK := mm_bd hK; obtain ⟨v27, e27, hK⟩ := hK
  refine mm_geti C (pc := 27) (k := 9) inGX12 rfl (by decide) wd_2008 dX12_blames_27 e27 ?_
  replace hK := mm_bd hK; obtain ⟨h30, e30, hK⟩ := hK
  refine mm_puti C (pc := 30) (k := 13) false (fun z => by cases z) inGX12 tyX12 tyX12_ok nmX12 rfl (by decide) wd_2012 rfl rfl dX12_blames_30 e30 ?_
  cases hK
  exact mm_vret C (pc := 33) rfl dX12_blames_33 rfl rfl
def F_X12_blames (a0 : Option Nat) (a1 : Int32) (h : MH) : Option MH := (gI h a0 12 12).bind fun v1 => if v1 = 0 then ((gI h a0 12 10).bind fun v10 => if v10 = (3 : Int32) then (F_X12_blames_22 a0 (1 : Int32) a0 h) else (F_X12_blames_22 a0 a1 a0 h)) else (some h)
set_option maxRecDepth 20000 in
set_option maxHeartbeats 4000000 in
theorem S_X12_blames {d : Nat} (hd : 1 ≤ d) {a0 : Option Nat} {a1 : Int32} {h : MH} {hz : MH} (hK : F_X12_blames a0 a1 h = some hz) : mm_M yX12_blames cX12_blames 2 none d [va_rf a0, .int a1] h (.inr none) hz := by
  refine mm_ofV (by decide +kernel) (by simp [lg_sl, mm_crf, mm_cti, mm_ctl]) (fun V C => ?_)
  rw [show lv_args 0 [va_rf a0, .int a1] = [(0, va_rf a0), (1, .int a1)] by simp [lv_args, mm_crf, mm_cti, mm_ctl]]
  unfold F_X12_blames at hK
  refine mm_aload_n C (pc := 0) 0 dX12_blames_0 rfl ?_
  replace hK := mm_bd hK; obtain ⟨v1, e1, hK⟩ := hK
  refine mm_geti C (pc := 1) (k := 12) inGX12 rfl (by decide) wd_2011 dX12_blames_1 e1 ?_
  refine mm_if_eq C (pc := 4) (tgt := 8) dX12_blames_4 (by decide) (fun hc => ?_) (fun hc => ?_)
  · replace hK := mm_ip hc hK
    refine mm_aload_n C (pc := 8) 0 dX12_blames_8 rfl ?_
    refine mm_aload_n C (pc := 9) 0 dX12_blames_9 rfl ?_
    replace hK := mm_bd hK; obtain ⟨v10, e10, hK⟩ := hK
    refine mm_geti C (pc := 10) (k := 10) inGX12 rfl (by decide) wd_2009 dX12_blames_10 e10 ?_
    refine mm_iconst C (pc := 13) (v := (3 : Int32)) dX12_blames_13 (by decide) ?_
    refine mm_icmp_ne C (pc := 14) (tgt := 21) dX12_blames_14 (by decide) (fun hc => ?_) (fun hc => ?_)
    · replace hK := mm_in hc hK
      refine mm_iload_n C (pc := 21) 1 dX12_blames_21 rfl ?_
      refine mm_sub C [0] rfl ?_
      exact w_X12_blames_22 hd C _ _ _ _ hK
    · replace hK := mm_ip hc hK
      refine mm_iconst C (pc := 17) (v := (1 : Int32)) dX12_blames_17 (by decide) ?_
      refine mm_goto C (pc := 18) (tgt := 22) dX12_blames_18 (by decide) ?_
      refine mm_sub C [0] rfl ?_
      exact w_X12_blames_22 hd C _ _ _ _ hK
  · replace hK := mm_in hc hK
    cases hK
    exact mm_vret C (pc := 7) rfl dX12_blames_7 rfl rfl
theorem wd_2194 : Cond.methodLink RX12 123 yJ0_length_8abf5 ∈ lw_good := mm_wd 2194 (by decide +kernel) (by decide +kernel)
theorem wd_2195 : Cond.methodLink RX12 128 yJ0_charAt_5068e ∈ lw_good := mm_wd 2195 (by decide +kernel) (by decide +kernel)
def F_X12_isWord_82 (l2 : Int32) (h : MH) : Option (Int32 × MH) := rZ l2 h
set_option maxRecDepth 20000 in
set_option maxHeartbeats 4000000 in
theorem w_X12_isWord_82 {d : Nat} {V : Nat → List (Nat × Value) → List Value → MH → Prop} {r : Int32} {hz : MH} (hd : 5 ≤ d) (C : mm_C d yX12_isWord cX12_isWord 4 (some .boolean) (.inr (some (.int r))) hz V) (l2 : Int32) (h : MH) (hK : F_X12_isWord_82 l2 h = some (r, hz)) : V 82 [(2, .int l2)] [] h := by
  unfold F_X12_isWord_82 at hK
  refine mm_iload_n C (pc := 82) 0 dX12_isWord_82 rfl ?_
  replace hK := rZ_some hK; obtain ⟨hv83, hK⟩ := hK
  cases hK
  exact mm_zret C (pc := 83) rfl (mm_nrZ hv83) dX12_isWord_83 rfl rfl
def F_X12_isWord_75 (k39 : Option Nat → Option Nat → Int32 → Int32 → MH → Option (Int32 × MH)) (l0 : Option Nat) (l1 : Option Nat) (l3 : Int32) (s0 : Int32) (h : MH) : Option (Int32 × MH) := k39 l0 l1 s0 (l3 + (1 : Int32)) h
set_option maxRecDepth 20000 in
set_option maxHeartbeats 4000000 in
theorem w_X12_isWord_75 {d : Nat} {V : Nat → List (Nat × Value) → List Value → MH → Prop} {r : Int32} {hz : MH} {k39 : Option Nat → Option Nat → Int32 → Int32 → MH → Option (Int32 × MH)} (hd : 5 ≤ d) (C : mm_C d yX12_isWord cX12_isWord 4 (some .boolean) (.inr (some (.int r))) hz V) (q39 : ∀ (x0 : Option Nat) (x1 : Option Nat) (x2 : Int32) (x3 : Int32) (h : MH), k39 x0 x1 x2 x3 h = some (r, hz) → V 39 [(0, va_rf x0), (1, va_rf x1), (2, .int x2), (3, .int x3)] [] h) (l0 : Option Nat) (l1 : Option Nat) (l3 : Int32) (s0 : Int32) (h : MH) (hK : F_X12_isWord_75 k39 l0 l1 l3 s0 h = some (r, hz)) : V 75 [(0, va_rf l0), (1, va_rf l1), (3, .int l3)] [.int s0] h := by
  unfold F_X12_isWord_75 at hK
  refine mm_istore_n C (pc := 75) (i := 2) (lv' := [(2, .int s0), (0, va_rf l0), (1, va_rf l1), (3, .int l3)]) dX12_isWord_75 rfl (by decide) (by simp [mm_crf]) ?_
  refine mm_iinc C (pc := 76) (v := (l3 + (1 : Int32))) (lv' := [(3, .int (l3 + (1 : Int32))), (2, .int s0), (0, va_rf l0), (1, va_rf l1)]) 3 dX12_isWord_76 rfl rfl (by decide) rfl ?_
  refine mm_goto C (pc := 79) (tgt := 39) dX12_isWord_79 (by decide) ?_
  refine mm_sub C [2, 3, 1, 0] rfl ?_
  exact q39 _ _ _ _ _ hK
def F_X12_isWord_39 : Nat → Option Nat → Option Nat → Int32 → Int32 → MH → Option (Int32 × MH)
  | 0 => fun _ _ _ _ _ => none
  | n + 1 => fun l0 l1 l2 l3 h => if l2 = 0 then (F_X12_isWord_82 l2 h) else (mm_b2 (cV h l1 13 (F_J0_length_8abf5 l1 h)) fun v45 h45 => if v45 ≤ l3 then (F_X12_isWord_82 l2 h45) else ((gR h45 l0 12 5).bind fun v52 => (gI h45 l0 12 9).bind fun v56 => (aI h45 v52 0 (v56 + l3)).bind fun v61 => mm_b2 (cV h45 l1 13 (F_J0_charAt_5068e l1 l3 h45)) fun v64 h64 => if v61 = v64 then (F_X12_isWord_75 (F_X12_isWord_39 n) l0 l1 l3 (1 : Int32) h64) else (F_X12_isWord_75 (F_X12_isWord_39 n) l0 l1 l3 (0 : Int32) h64)))
set_option maxRecDepth 20000 in
set_option maxHeartbeats 4000000 in
theorem w_X12_isWord_39 {d : Nat} {V : Nat → List (Nat × Value) → List Value → MH → Prop} {r : Int32} {hz : MH} (hd : 5 ≤ d) (C : mm_C d yX12_isWord cX12_isWord 4 (some .boolean) (.inr (some (.int r))) hz V) : ∀ (n : Nat) (l0 : Option Nat) (l1 : Option Nat) (l2 : Int32) (l3 : Int32) (h : MH), F_X12_isWord_39 n l0 l1 l2 l3 h = some (r, hz) → V 39 [(0, va_rf l0), (1, va_rf l1), (2, .int l2), (3, .int l3)] [] h := by
  intro n
  induction n with
  | zero => intro l0 l1 l2 l3 h hK; cases hK
  | succ n ih =>
    intro l0 l1 l2 l3 h hK
    replace hK : (if l2 = 0 then (F_X12_isWord_82 l2 h) else (mm_b2 (cV h l1 13 (F_J0_length_8abf5 l1 h)) fun v45 h45 => if v45 ≤ l3 then (F_X12_isWord_82 l2 h45) else ((gR h45 l0 12 5).bind fun v52 => (gI h45 l0 12 9).bind fun v56 => (aI h45 v52 0 (v56 + l3)).bind fun v61 => mm_b2 (cV h45 l1 13 (F_J0_charAt_5068e l1 l3 h45)) fun v64 h64 => if v61 = v64 then (F_X12_isWord_75 (F_X12_isWord_39 n) l0 l1 l3 (1 : Int32) h64) else (F_X12_isWord_75 (F_X12_isWord_39 n) l0 l1 l3 (0 : Int32) h64)))) = some (r, hz) := hK
    refine mm_iload_n C (pc := 39) 2 dX12_isWord_39 rfl ?_
    refine mm_if_eq C (pc := 40) (tgt := 82) dX12_isWord_40 (by decide) (fun hc => ?_) (fun hc => ?_)
    · replace hK := mm_ip hc hK
      refine mm_sub C [2] rfl ?_
      exact w_X12_isWord_82 hd C _ _ hK
    · replace hK := mm_in hc hK
      refine mm_iload_n C (pc := 43) 3 dX12_isWord_43 rfl ?_
      refine mm_aload_n C (pc := 44) 1 dX12_isWord_44 rfl ?_
      replace hK := mm_b2s hK; obtain ⟨v45, h45, e45, hK⟩ := hK
      obtain ⟨o45, e45⟩ := cV_some e45
      refine mm_callV C (pc := 45) (d1 := 2) (As := []) (st := [.int l3]) (vk := (some (.int v45))) ((S_J0_length_8abf5 (by omega)) e45) tT_J0_length_8abf5 o45 (Or.inl ⟨rfl, rfl⟩) wd_2194 wd_614 wd_615 (by omega) (by decide) rfl (by simp [mm_crf, mm_cti, mm_ctl]) rfl dX12_isWord_45 ?_
      show V _ _ (.int v45 :: _) _
      refine mm_icmp_ge C (pc := 48) (tgt := 82) dX12_isWord_48 (by decide) (fun hc => ?_) (fun hc => ?_)
      · replace hK := mm_ip hc hK
        refine mm_sub C [2] rfl ?_
        exact w_X12_isWord_82 hd C _ _ hK
      · replace hK := mm_in hc hK
        refine mm_aload_n C (pc := 51) 0 dX12_isWord_51 rfl ?_
        replace hK := mm_bd hK; obtain ⟨v52, e52, hK⟩ := hK
        refine mm_getr C (pc := 52) (k := 5) inGX12 rfl (by decide) wd_2004 dX12_isWord_52 e52 ?_
        refine mm_aload_n C (pc := 55) 0 dX12_isWord_55 rfl ?_
        replace hK := mm_bd hK; obtain ⟨v56, e56, hK⟩ := hK
        refine mm_geti C (pc := 56) (k := 9) inGX12 rfl (by decide) wd_2008 dX12_isWord_56 e56 ?_
        refine mm_iload_n C (pc := 59) 3 dX12_isWord_59 rfl ?_
        refine mm_iadd C (pc := 60) dX12_isWord_60 ?_
        replace hK := mm_bd hK; obtain ⟨v61, e61, hK⟩ := hK
        refine mm_iald C (pc := 61) dX12_isWord_61 e61 ?_
        refine mm_aload_n C (pc := 62) 1 dX12_isWord_62 rfl ?_
        refine mm_iload_n C (pc := 63) 3 dX12_isWord_63 rfl ?_
        replace hK := mm_b2s hK; obtain ⟨v64, h64, e64, hK⟩ := hK
        obtain ⟨o64, e64⟩ := cV_some e64
        refine mm_callV C (pc := 64) (d1 := 4) (As := [.int l3]) (st := [.int v61]) (vk := (some (.int v64))) ((S_J0_charAt_5068e (by omega)) e64) tT_J0_charAt_5068e o64 (Or.inl ⟨rfl, rfl⟩) wd_2195 wd_1258 wd_1259 (by omega) (by decide) rfl (by simp [mm_crf, mm_cti, mm_ctl]) rfl dX12_isWord_64 ?_
        show V _ _ (.int v64 :: _) _
        refine mm_icmp_ne C (pc := 67) (tgt := 74) dX12_isWord_67 (by decide) (fun hc => ?_) (fun hc => ?_)
        · replace hK := mm_in hc hK
          refine mm_iconst C (pc := 74) (v := (0 : Int32)) dX12_isWord_74 (by decide) ?_
          refine mm_sub C [0, 1, 3] rfl ?_
          exact w_X12_isWord_75 hd C (fun z0 z1 z2 z3 z4 hK => ih z0 z1 z2 z3 z4 hK) _ _ _ _ _ hK
        · replace hK := mm_ip hc hK
          refine mm_iconst C (pc := 70) (v := (1 : Int32)) dX12_isWord_70 (by decide) ?_
          refine mm_goto C (pc := 71) (tgt := 75) dX12_isWord_71 (by decide) ?_
          refine mm_sub C [0, 1, 3] rfl ?_
          exact w_X12_isWord_75 hd C (fun z0 z1 z2 z3 z4 hK => ih z0 z1 z2 z3 z4 hK) _ _ _ _ _ hK
def F_X12_isWord_36 (l0 : Option Nat) (l1 : Option Nat) (s0 : Int32) (h : MH) : Option (Int32 × MH) := F_X12_isWord_39 mm_N l0 l1 s0 (0 : Int32) h
set_option maxRecDepth 20000 in
set_option maxHeartbeats 4000000 in
theorem w_X12_isWord_36 {d : Nat} {V : Nat → List (Nat × Value) → List Value → MH → Prop} {r : Int32} {hz : MH} (hd : 5 ≤ d) (C : mm_C d yX12_isWord cX12_isWord 4 (some .boolean) (.inr (some (.int r))) hz V) (l0 : Option Nat) (l1 : Option Nat) (s0 : Int32) (h : MH) (hK : F_X12_isWord_36 l0 l1 s0 h = some (r, hz)) : V 36 [(0, va_rf l0), (1, va_rf l1)] [.int s0] h := by
  unfold F_X12_isWord_36 at hK
  refine mm_istore_n C (pc := 36) (i := 2) (lv' := [(2, .int s0), (0, va_rf l0), (1, va_rf l1)]) dX12_isWord_36 rfl (by decide) (by simp [mm_crf]) ?_
  refine mm_iconst C (pc := 37) (v := (0 : Int32)) dX12_isWord_37 (by decide) ?_
  refine mm_istore_n C (pc := 38) (i := 3) (lv' := [(3, .int (0 : Int32)), (2, .int s0), (0, va_rf l0), (1, va_rf l1)]) dX12_isWord_38 rfl (by decide) rfl ?_
  refine mm_sub C [2, 3, 1, 0] rfl ?_
  exact w_X12_isWord_39 hd C _ _ _ _ _ _ hK
def F_X12_isWord_35 (l0 : Option Nat) (l1 : Option Nat) (h : MH) : Option (Int32 × MH) := F_X12_isWord_36 l0 l1 (0 : Int32) h
set_option maxRecDepth 20000 in
set_option maxHeartbeats 4000000 in
theorem w_X12_isWord_35 {d : Nat} {V : Nat → List (Nat × Value) → List Value → MH → Prop} {r : Int32} {hz : MH} (hd : 5 ≤ d) (C : mm_C d yX12_isWord cX12_isWord 4 (some .boolean) (.inr (some (.int r))) hz V) (l0 : Option Nat) (l1 : Option Nat) (h : MH) (hK : F_X12_isWord_35 l0 l1 h = some (r, hz)) : V 35 [(0, va_rf l0), (1, va_rf l1)] [] h := by
  unfold F_X12_isWord_35 at hK
  refine mm_iconst C (pc := 35) (v := (0 : Int32)) dX12_isWord_35 (by decide) ?_
  exact w_X12_isWord_36 hd C _ _ _ _ hK
def F_X12_isWord (a0 : Option Nat) (a1 : Option Nat) (h : MH) : Option (Int32 × MH) := (gI h a0 12 12).bind fun v1 => if v1 = 0 then ((gI h a0 12 10).bind fun v8 => if v8 = (1 : Int32) then ((gI h a0 12 8).bind fun v16 => (gI h a0 12 9).bind fun v20 => mm_b2 (cV h a1 13 (F_J0_length_8abf5 a1 h)) fun v25 h25 => if (v16 - v20) = v25 then (F_X12_isWord_36 a0 a1 (1 : Int32) h25) else (F_X12_isWord_35 a0 a1 h25)) else (F_X12_isWord_35 a0 a1 h)) else (F_X12_isWord_35 a0 a1 h)
set_option maxRecDepth 20000 in
set_option maxHeartbeats 4000000 in
theorem S_X12_isWord {d : Nat} (hd : 5 ≤ d) {a0 : Option Nat} {a1 : Option Nat} {h : MH} {r : Int32} {hz : MH} (hK : F_X12_isWord a0 a1 h = some (r, hz)) : mm_M yX12_isWord cX12_isWord 4 (some .boolean) d [va_rf a0, va_rf a1] h (.inr (some (.int r))) hz := by
  refine mm_ofV (by decide +kernel) (by simp [lg_sl, mm_crf, mm_cti, mm_ctl]) (fun V C => ?_)
  rw [show lv_args 0 [va_rf a0, va_rf a1] = [(0, va_rf a0), (1, va_rf a1)] by simp [lv_args, mm_crf, mm_cti, mm_ctl]]
  unfold F_X12_isWord at hK
  refine mm_aload_n C (pc := 0) 0 dX12_isWord_0 rfl ?_
  replace hK := mm_bd hK; obtain ⟨v1, e1, hK⟩ := hK
  refine mm_geti C (pc := 1) (k := 12) inGX12 rfl (by decide) wd_2011 dX12_isWord_1 e1 ?_
  refine mm_if_ne C (pc := 4) (tgt := 35) dX12_isWord_4 (by decide) (fun hc => ?_) (fun hc => ?_)
  · replace hK := mm_in hc hK
    exact w_X12_isWord_35 hd C _ _ _ hK
  · replace hK := mm_ip hc hK
    refine mm_aload_n C (pc := 7) 0 dX12_isWord_7 rfl ?_
    replace hK := mm_bd hK; obtain ⟨v8, e8, hK⟩ := hK
    refine mm_geti C (pc := 8) (k := 10) inGX12 rfl (by decide) wd_2009 dX12_isWord_8 e8 ?_
    refine mm_iconst C (pc := 11) (v := (1 : Int32)) dX12_isWord_11 (by decide) ?_
    refine mm_icmp_ne C (pc := 12) (tgt := 35) dX12_isWord_12 (by decide) (fun hc => ?_) (fun hc => ?_)
    · replace hK := mm_in hc hK
      exact w_X12_isWord_35 hd C _ _ _ hK
    · replace hK := mm_ip hc hK
      refine mm_aload_n C (pc := 15) 0 dX12_isWord_15 rfl ?_
      replace hK := mm_bd hK; obtain ⟨v16, e16, hK⟩ := hK
      refine mm_geti C (pc := 16) (k := 8) inGX12 rfl (by decide) wd_2007 dX12_isWord_16 e16 ?_
      refine mm_aload_n C (pc := 19) 0 dX12_isWord_19 rfl ?_
      replace hK := mm_bd hK; obtain ⟨v20, e20, hK⟩ := hK
      refine mm_geti C (pc := 20) (k := 9) inGX12 rfl (by decide) wd_2008 dX12_isWord_20 e20 ?_
      refine mm_isub C (pc := 23) dX12_isWord_23 ?_
      refine mm_aload_n C (pc := 24) 1 dX12_isWord_24 rfl ?_
      replace hK := mm_b2s hK; obtain ⟨v25, h25, e25, hK⟩ := hK
      obtain ⟨o25, e25⟩ := cV_some e25
      refine mm_callV C (pc := 25) (d1 := 2) (As := []) (st := [.int (v16 - v20)]) (vk := (some (.int v25))) ((S_J0_length_8abf5 (by omega)) e25) tT_J0_length_8abf5 o25 (Or.inl ⟨rfl, rfl⟩) wd_2194 wd_614 wd_615 (by omega) (by decide) rfl (by simp [mm_crf, mm_cti, mm_ctl]) rfl dX12_isWord_25 ?_
      show V _ _ (.int v25 :: _) _
      refine mm_icmp_ne C (pc := 28) (tgt := 35) dX12_isWord_28 (by decide) (fun hc => ?_) (fun hc => ?_)
      · replace hK := mm_in hc hK
        exact w_X12_isWord_35 hd C _ _ _ hK
      · replace hK := mm_ip hc hK
        refine mm_iconst C (pc := 31) (v := (1 : Int32)) dX12_isWord_31 (by decide) ?_
        refine mm_goto C (pc := 32) (tgt := 36) dX12_isWord_32 (by decide) ?_
        exact w_X12_isWord_36 hd C _ _ _ _ hK
theorem wd_2193 : Cond.code yX12_isWord cX12_isWord 4 (some .boolean) ∈ lw_good := mm_wd 2193 (by decide +kernel) (by decide +kernel)
theorem tT_X12_isWord : mm_T yX12_isWord cX12_isWord 4 (some .boolean) 1 := ⟨wd_2193, wd_170, by decide +kernel, by decide +kernel, by decide +kernel, by decide +kernel⟩
theorem wd_2190 : Cond.methodLink RX12 132 yX12_isWord ∈ lw_good := mm_wd 2190 (by decide +kernel) (by decide +kernel)
theorem wd_2192 : Cond.instanceMethod yX12_isWord ∈ lw_good := mm_wd 2192 (by decide +kernel) (by decide +kernel)
theorem wd_66 : Cond.selects RX12 yX12_isWord yX12_isWord ∈ lw_good := mm_wd 66 (by decide +kernel) (by decide +kernel)
theorem wd_2167 : Cond.code yX12_readsOn cX12_readsOn 2 none ∈ lw_good := mm_wd 2167 (by decide +kernel) (by decide +kernel)
theorem tT_X12_readsOn : mm_T yX12_readsOn cX12_readsOn 2 none 0 := ⟨wd_2167, wd_170, by decide +kernel, by decide +kernel, by decide +kernel, by decide +kernel⟩
theorem wd_2164 : Cond.methodLink RX12 136 yX12_readsOn ∈ lw_good := mm_wd 2164 (by decide +kernel) (by decide +kernel)
theorem wd_2166 : Cond.instanceMethod yX12_readsOn ∈ lw_good := mm_wd 2166 (by decide +kernel) (by decide +kernel)
theorem wd_62 : Cond.selects RX12 yX12_readsOn yX12_readsOn ∈ lw_good := mm_wd 62 (by decide +kernel) (by decide +kernel)
def F_X12_took_14 (l2 : Int32) (h : MH) : Option (Int32 × MH) := rZ l2 h
set_option maxRecDepth 20000 in
set_option maxHeartbeats 4000000 in
theorem w_X12_took_14 {d : Nat} {V : Nat → List (Nat × Value) → List Value → MH → Prop} {r : Int32} {hz : MH} (hd : 6 ≤ d) (C : mm_C d yX12_took cX12_took 3 (some .boolean) (.inr (some (.int r))) hz V) (l2 : Int32) (h : MH) (hK : F_X12_took_14 l2 h = some (r, hz)) : V 14 [(2, .int l2)] [] h := by
  unfold F_X12_took_14 at hK
  refine mm_iload_n C (pc := 14) 0 dX12_took_14 rfl ?_
  replace hK := rZ_some hK; obtain ⟨hv15, hK⟩ := hK
  cases hK
  exact mm_zret C (pc := 15) rfl (mm_nrZ hv15) dX12_took_15 rfl rfl
def F_X12_took (a0 : Option Nat) (a1 : Option Nat) (h : MH) : Option (Int32 × MH) := mm_b2 (cV h a0 12 (F_X12_isWord a0 a1 h)) fun v2 h2 => if v2 = 0 then (F_X12_took_14 v2 h2) else ((cV h2 a0 12 (F_X12_readsOn a0 h2)).bind fun h11 => F_X12_took_14 v2 h11)
set_option maxRecDepth 20000 in
set_option maxHeartbeats 4000000 in
theorem S_X12_took {d : Nat} (hd : 6 ≤ d) {a0 : Option Nat} {a1 : Option Nat} {h : MH} {r : Int32} {hz : MH} (hK : F_X12_took a0 a1 h = some (r, hz)) : mm_M yX12_took cX12_took 3 (some .boolean) d [va_rf a0, va_rf a1] h (.inr (some (.int r))) hz := by
  refine mm_ofV (by decide +kernel) (by simp [lg_sl, mm_crf, mm_cti, mm_ctl]) (fun V C => ?_)
  rw [show lv_args 0 [va_rf a0, va_rf a1] = [(0, va_rf a0), (1, va_rf a1)] by simp [lv_args, mm_crf, mm_cti, mm_ctl]]
  unfold F_X12_took at hK
  refine mm_aload_n C (pc := 0) 0 dX12_took_0 rfl ?_
  refine mm_aload_n C (pc := 1) 1 dX12_took_1 rfl ?_
  replace hK := mm_b2s hK; obtain ⟨v2, h2, e2, hK⟩ := hK
  obtain ⟨o2, e2⟩ := cV_some e2
  refine mm_callV C (pc := 2) (d1 := 5) (As := [va_rf a1]) (st := []) (vk := (some (.int v2))) ((S_X12_isWord (by omega)) e2) tT_X12_isWord o2 (Or.inr ⟨_, rfl, rfl⟩) wd_2190 wd_2192 wd_66 (by omega) (by decide) rfl (by simp [mm_crf, mm_cti, mm_ctl]) rfl dX12_took_2 ?_
  show V _ _ (.int v2 :: _) _
  refine mm_istore_n C (pc := 5) (i := 2) (lv' := [(2, .int v2), (0, va_rf a0), (1, va_rf a1)]) dX12_took_5 rfl (by decide) (by simp [mm_crf]) ?_
  refine mm_iload_n C (pc := 6) 0 dX12_took_6 rfl ?_
  refine mm_if_eq C (pc := 7) (tgt := 14) dX12_took_7 (by decide) (fun hc => ?_) (fun hc => ?_)
  · replace hK := mm_ip hc hK
    refine mm_sub C [0] rfl ?_
    exact w_X12_took_14 hd C _ _ hK
  · replace hK := mm_in hc hK
    refine mm_aload_n C (pc := 10) 1 dX12_took_10 rfl ?_
    replace hK := mm_bd hK; obtain ⟨h11, e11, hK⟩ := hK
    obtain ⟨o11, e11⟩ := cV_some e11
    refine mm_callV C (pc := 11) (d1 := 2) (As := []) (st := []) (vk := none) ((S_X12_readsOn (by omega)) e11) tT_X12_readsOn o11 (Or.inr ⟨_, rfl, rfl⟩) wd_2164 wd_2166 wd_62 (by omega) (by decide) rfl (by simp [mm_crf, mm_cti, mm_ctl]) rfl dX12_took_11 ?_
    show V _ _ [] _
    refine mm_sub C [0] rfl ?_
    exact w_X12_took_14 hd C _ _ hK
def F_X12_isSign_20 (s0 : Int32) (h : MH) : Option (Int32 × MH) := rZ s0 h
set_option maxRecDepth 20000 in
set_option maxHeartbeats 4000000 in
theorem w_X12_isSign_20 {d : Nat} {V : Nat → List (Nat × Value) → List Value → MH → Prop} {r : Int32} {hz : MH} (hd : 1 ≤ d) (C : mm_C d yX12_isSign cX12_isSign 2 (some .boolean) (.inr (some (.int r))) hz V) (s0 : Int32) (h : MH) (hK : F_X12_isSign_20 s0 h = some (r, hz)) : V 20 [] [.int s0] h := by
  unfold F_X12_isSign_20 at hK
  replace hK := rZ_some hK; obtain ⟨hv20, hK⟩ := hK
  cases hK
  exact mm_zret C (pc := 20) rfl (mm_nrZ hv20) dX12_isSign_20 rfl rfl
def F_X12_isSign_19 (h : MH) : Option (Int32 × MH) := F_X12_isSign_20 (0 : Int32) h
set_option maxRecDepth 20000 in
set_option maxHeartbeats 4000000 in
theorem w_X12_isSign_19 {d : Nat} {V : Nat → List (Nat × Value) → List Value → MH → Prop} {r : Int32} {hz : MH} (hd : 1 ≤ d) (C : mm_C d yX12_isSign cX12_isSign 2 (some .boolean) (.inr (some (.int r))) hz V) (h : MH) (hK : F_X12_isSign_19  h = some (r, hz)) : V 19 [] [] h := by
  unfold F_X12_isSign_19 at hK
  refine mm_iconst C (pc := 19) (v := (0 : Int32)) dX12_isSign_19 (by decide) ?_
  exact w_X12_isSign_20 hd C _ _ hK
def F_X12_isSign (a0 : Option Nat) (a1 : Int32) (h : MH) : Option (Int32 × MH) := (gI h a0 12 12).bind fun v1 => if v1 = 0 then ((gI h a0 12 10).bind fun v8 => if v8 = a1 then (F_X12_isSign_20 (1 : Int32) h) else (F_X12_isSign_19 h)) else (F_X12_isSign_19 h)
set_option maxRecDepth 20000 in
set_option maxHeartbeats 4000000 in
theorem S_X12_isSign {d : Nat} (hd : 1 ≤ d) {a0 : Option Nat} {a1 : Int32} {h : MH} {r : Int32} {hz : MH} (hK : F_X12_isSign a0 a1 h = some (r, hz)) : mm_M yX12_isSign cX12_isSign 2 (some .boolean) d [va_rf a0, .int a1] h (.inr (some (.int r))) hz := by
  refine mm_ofV (by decide +kernel) (by simp [lg_sl, mm_crf, mm_cti, mm_ctl]) (fun V C => ?_)
  rw [show lv_args 0 [va_rf a0, .int a1] = [(0, va_rf a0), (1, .int a1)] by simp [lv_args, mm_crf, mm_cti, mm_ctl]]
  unfold F_X12_isSign at hK
  refine mm_aload_n C (pc := 0) 0 dX12_isSign_0 rfl ?_
  replace hK := mm_bd hK; obtain ⟨v1, e1, hK⟩ := hK
  refine mm_geti C (pc := 1) (k := 12) inGX12 rfl (by decide) wd_2011 dX12_isSign_1 e1 ?_
  refine mm_if_ne C (pc := 4) (tgt := 19) dX12_isSign_4 (by decide) (fun hc => ?_) (fun hc => ?_)
  · replace hK := mm_in hc hK
    refine mm_sub C [] rfl ?_
    exact w_X12_isSign_19 hd C _ hK
  · replace hK := mm_ip hc hK
    refine mm_aload_n C (pc := 7) 0 dX12_isSign_7 rfl ?_
    replace hK := mm_bd hK; obtain ⟨v8, e8, hK⟩ := hK
    refine mm_geti C (pc := 8) (k := 10) inGX12 rfl (by decide) wd_2009 dX12_isSign_8 e8 ?_
    refine mm_iload_n C (pc := 11) 1 dX12_isSign_11 rfl ?_
    refine mm_icmp_ne C (pc := 12) (tgt := 19) dX12_isSign_12 (by decide) (fun hc => ?_) (fun hc => ?_)
    · replace hK := mm_in hc hK
      refine mm_sub C [] rfl ?_
      exact w_X12_isSign_19 hd C _ hK
    · replace hK := mm_ip hc hK
      refine mm_iconst C (pc := 15) (v := (1 : Int32)) dX12_isSign_15 (by decide) ?_
      refine mm_goto C (pc := 16) (tgt := 20) dX12_isSign_16 (by decide) ?_
      refine mm_sub C [] rfl ?_
      exact w_X12_isSign_20 hd C _ _ hK
theorem wd_2199 : Cond.code yX12_blames cX12_blames 2 none ∈ lw_good := mm_wd 2199 (by decide +kernel) (by decide +kernel)
theorem tT_X12_blames : mm_T yX12_blames cX12_blames 2 none 1 := ⟨wd_2199, wd_170, by decide +kernel, by decide +kernel, by decide +kernel, by decide +kernel⟩
theorem wd_2196 : Cond.methodLink RX12 139 yX12_blames ∈ lw_good := mm_wd 2196 (by decide +kernel) (by decide +kernel)
theorem wd_2198 : Cond.instanceMethod yX12_blames ∈ lw_good := mm_wd 2198 (by decide +kernel) (by decide +kernel)
theorem wd_67 : Cond.selects RX12 yX12_blames yX12_blames ∈ lw_good := mm_wd 67 (by decide +kernel) (by decide +kernel)
def F_X12_mustSign_24 (h : MH) : Option MH := some h
set_option maxRecDepth 20000 in
set_option maxHeartbeats 4000000 in
theorem w_X12_mustSign_24 {d : Nat} {V : Nat → List (Nat × Value) → List Value → MH → Prop} {hz : MH} (hd : 3 ≤ d) (C : mm_C d yX12_mustSign cX12_mustSign 2 none (.inr none) hz V) (h : MH) (hK : F_X12_mustSign_24  h = some hz) : V 24 [] [] h := by
  unfold F_X12_mustSign_24 at hK
  cases hK
  exact mm_vret C (pc := 24) rfl dX12_mustSign_24 rfl rfl
def F_X12_mustSign_13 (l0 : Option Nat) (h : MH) : Option MH := (gI h l0 12 12).bind fun v14 => if v14 = 0 then ((cV h l0 12 (F_X12_readsOn l0 h)).bind fun h21 => F_X12_mustSign_24 h21) else (F_X12_mustSign_24 h)
set_option maxRecDepth 20000 in
set_option maxHeartbeats 4000000 in
theorem w_X12_mustSign_13 {d : Nat} {V : Nat → List (Nat × Value) → List Value → MH → Prop} {hz : MH} (hd : 3 ≤ d) (C : mm_C d yX12_mustSign cX12_mustSign 2 none (.inr none) hz V) (l0 : Option Nat) (h : MH) (hK : F_X12_mustSign_13 l0 h = some hz) : V 13 [(0, va_rf l0)] [] h := by
  unfold F_X12_mustSign_13 at hK
  refine mm_aload_n C (pc := 13) 0 dX12_mustSign_13 rfl ?_
  replace hK := mm_bd hK; obtain ⟨v14, e14, hK⟩ := hK
  refine mm_geti C (pc := 14) (k := 12) inGX12 rfl (by decide) wd_2011 dX12_mustSign_14 e14 ?_
  refine mm_if_ne C (pc := 17) (tgt := 24) dX12_mustSign_17 (by decide) (fun hc => ?_) (fun hc => ?_)
  · replace hK := mm_in hc hK
    refine mm_sub C [] rfl ?_
    exact w_X12_mustSign_24 hd C _ hK
  · replace hK := mm_ip hc hK
    refine mm_aload_n C (pc := 20) 0 dX12_mustSign_20 rfl ?_
    replace hK := mm_bd hK; obtain ⟨h21, e21, hK⟩ := hK
    obtain ⟨o21, e21⟩ := cV_some e21
    refine mm_callV C (pc := 21) (d1 := 2) (As := []) (st := []) (vk := none) ((S_X12_readsOn (by omega)) e21) tT_X12_readsOn o21 (Or.inr ⟨_, rfl, rfl⟩) wd_2164 wd_2166 wd_62 (by omega) (by decide) rfl (by simp [mm_crf, mm_cti, mm_ctl]) rfl dX12_mustSign_21 ?_
    show V _ _ [] _
    refine mm_sub C [] rfl ?_
    exact w_X12_mustSign_24 hd C _ hK
def F_X12_mustSign (a0 : Option Nat) (a1 : Int32) (h : MH) : Option MH := (gI h a0 12 10).bind fun v1 => if v1 = a1 then (F_X12_mustSign_13 a0 h) else ((cV h a0 12 (F_X12_blames a0 (2 : Int32) h)).bind fun h10 => F_X12_mustSign_13 a0 h10)
set_option maxRecDepth 20000 in
set_option maxHeartbeats 4000000 in
theorem S_X12_mustSign {d : Nat} (hd : 3 ≤ d) {a0 : Option Nat} {a1 : Int32} {h : MH} {hz : MH} (hK : F_X12_mustSign a0 a1 h = some hz) : mm_M yX12_mustSign cX12_mustSign 2 none d [va_rf a0, .int a1] h (.inr none) hz := by
  refine mm_ofV (by decide +kernel) (by simp [lg_sl, mm_crf, mm_cti, mm_ctl]) (fun V C => ?_)
  rw [show lv_args 0 [va_rf a0, .int a1] = [(0, va_rf a0), (1, .int a1)] by simp [lv_args, mm_crf, mm_cti, mm_ctl]]
  unfold F_X12_mustSign at hK
  refine mm_aload_n C (pc := 0) 0 dX12_mustSign_0 rfl ?_
  replace hK := mm_bd hK; obtain ⟨v1, e1, hK⟩ := hK
  refine mm_geti C (pc := 1) (k := 10) inGX12 rfl (by decide) wd_2009 dX12_mustSign_1 e1 ?_
  refine mm_iload_n C (pc := 4) 1 dX12_mustSign_4 rfl ?_
  refine mm_icmp_eq C (pc := 5) (tgt := 13) dX12_mustSign_5 (by decide) (fun hc => ?_) (fun hc => ?_)
  · replace hK := mm_ip hc hK
    refine mm_sub C [0] rfl ?_
    exact w_X12_mustSign_13 hd C _ _ hK
  · replace hK := mm_in hc hK
    refine mm_aload_n C (pc := 8) 0 dX12_mustSign_8 rfl ?_
    refine mm_iconst C (pc := 9) (v := (2 : Int32)) dX12_mustSign_9 (by decide) ?_
    replace hK := mm_bd hK; obtain ⟨h10, e10, hK⟩ := hK
    obtain ⟨o10, e10⟩ := cV_some e10
    refine mm_callV C (pc := 10) (d1 := 1) (As := [.int (2 : Int32)]) (st := []) (vk := none) ((S_X12_blames (by omega)) e10) tT_X12_blames o10 (Or.inr ⟨_, rfl, rfl⟩) wd_2196 wd_2198 wd_67 (by omega) (by decide) rfl (by simp [mm_crf, mm_cti, mm_ctl]) rfl dX12_mustSign_10 ?_
    show V _ _ [] _
    refine mm_sub C [0] rfl ?_
    exact w_X12_mustSign_13 hd C _ _ hK
theorem wd_2159 : Cond.code yX12_within cX12_within 6 (some .boolean) ∈ lw_good := mm_wd 2159 (by decide +kernel) (by decide +kernel)
theorem tT_X12_within : mm_T yX12_within cX12_within 6 (some .boolean) 3 := ⟨wd_2159, wd_170, by decide +kernel, by decide +kernel, by decide +kernel, by decide +kernel⟩
theorem wd_2157 : Cond.methodLink RX12 143 yX12_within ∈ lw_good := mm_wd 2157 (by decide +kernel) (by decide +kernel)
theorem wd_2158 : Cond.static yX12_within ∈ lw_good := mm_wd 2158 (by decide +kernel) (by decide +kernel)
def F_X12_number_64 (s0 : Int32) (h : MH) : Option (Int32 × MH) := some (s0, h)
set_option maxRecDepth 20000 in
set_option maxHeartbeats 4000000 in
theorem w_X12_number_64 {d : Nat} {V : Nat → List (Nat × Value) → List Value → MH → Prop} {r : Int32} {hz : MH} (hd : 3 ≤ d) (C : mm_C d yX12_number cX12_number 4 (some .int) (.inr (some (.int r))) hz V) (s0 : Int32) (h : MH) (hK : F_X12_number_64 s0 h = some (r, hz)) : V 64 [] [.int s0] h := by
  unfold F_X12_number_64 at hK
  cases hK
  exact mm_iret C (pc := 64) rfl dX12_number_64 rfl rfl
def F_X12_number_52 (l0 : Option Nat) (l1 : Int32) (l3 : Int32) (h : MH) : Option (Int32 × MH) := (gI h l0 12 12).bind fun v53 => if v53 = 0 then (F_X12_number_64 l3 h) else (F_X12_number_64 l1 h)
set_option maxRecDepth 20000 in
set_option maxHeartbeats 4000000 in
theorem w_X12_number_52 {d : Nat} {V : Nat → List (Nat × Value) → List Value → MH → Prop} {r : Int32} {hz : MH} (hd : 3 ≤ d) (C : mm_C d yX12_number cX12_number 4 (some .int) (.inr (some (.int r))) hz V) (l0 : Option Nat) (l1 : Int32) (l3 : Int32) (h : MH) (hK : F_X12_number_52 l0 l1 l3 h = some (r, hz)) : V 52 [(0, va_rf l0), (1, .int l1), (3, .int l3)] [] h := by
  unfold F_X12_number_52 at hK
  refine mm_aload_n C (pc := 52) 0 dX12_number_52 rfl ?_
  replace hK := mm_bd hK; obtain ⟨v53, e53, hK⟩ := hK
  refine mm_geti C (pc := 53) (k := 12) inGX12 rfl (by decide) wd_2011 dX12_number_53 e53 ?_
  refine mm_if_ne C (pc := 56) (tgt := 63) dX12_number_56 (by decide) (fun hc => ?_) (fun hc => ?_)
  · replace hK := mm_in hc hK
    refine mm_iload_n C (pc := 63) 1 dX12_number_63 rfl ?_
    refine mm_sub C [] rfl ?_
    exact w_X12_number_64 hd C _ _ hK
  · replace hK := mm_ip hc hK
    refine mm_iload_n C (pc := 59) 2 dX12_number_59 rfl ?_
    refine mm_goto C (pc := 60) (tgt := 64) dX12_number_60 (by decide) ?_
    refine mm_sub C [] rfl ?_
    exact w_X12_number_64 hd C _ _ hK
def F_X12_number_36 (l0 : Option Nat) (l1 : Int32) (h : MH) : Option (Int32 × MH) := (gI h l0 12 11).bind fun v37 => (gI h l0 12 12).bind fun v42 => if v42 = 0 then ((cV h l0 12 (F_X12_readsOn l0 h)).bind fun h49 => F_X12_number_52 l0 l1 v37 h49) else (F_X12_number_52 l0 l1 v37 h)
set_option maxRecDepth 20000 in
set_option maxHeartbeats 4000000 in
theorem w_X12_number_36 {d : Nat} {V : Nat → List (Nat × Value) → List Value → MH → Prop} {r : Int32} {hz : MH} (hd : 3 ≤ d) (C : mm_C d yX12_number cX12_number 4 (some .int) (.inr (some (.int r))) hz V) (l0 : Option Nat) (l1 : Int32) (h : MH) (hK : F_X12_number_36 l0 l1 h = some (r, hz)) : V 36 [(0, va_rf l0), (1, .int l1)] [] h := by
  unfold F_X12_number_36 at hK
  refine mm_aload_n C (pc := 36) 0 dX12_number_36 rfl ?_
  replace hK := mm_bd hK; obtain ⟨v37, e37, hK⟩ := hK
  refine mm_geti C (pc := 37) (k := 11) inGX12 rfl (by decide) wd_2010 dX12_number_37 e37 ?_
  refine mm_istore_n C (pc := 40) (i := 3) (lv' := [(3, .int v37), (0, va_rf l0), (1, .int l1)]) dX12_number_40 rfl (by decide) rfl ?_
  refine mm_aload_n C (pc := 41) 1 dX12_number_41 rfl ?_
  replace hK := mm_bd hK; obtain ⟨v42, e42, hK⟩ := hK
  refine mm_geti C (pc := 42) (k := 12) inGX12 rfl (by decide) wd_2011 dX12_number_42 e42 ?_
  refine mm_if_ne C (pc := 45) (tgt := 52) dX12_number_45 (by decide) (fun hc => ?_) (fun hc => ?_)
  · replace hK := mm_in hc hK
    refine mm_sub C [1, 2, 0] rfl ?_
    exact w_X12_number_52 hd C _ _ _ _ hK
  · replace hK := mm_ip hc hK
    refine mm_aload_n C (pc := 48) 1 dX12_number_48 rfl ?_
    replace hK := mm_bd hK; obtain ⟨h49, e49, hK⟩ := hK
    obtain ⟨o49, e49⟩ := cV_some e49
    refine mm_callV C (pc := 49) (d1 := 2) (As := []) (st := []) (vk := none) ((S_X12_readsOn (by omega)) e49) tT_X12_readsOn o49 (Or.inr ⟨_, rfl, rfl⟩) wd_2164 wd_2166 wd_62 (by omega) (by decide) rfl (by simp [mm_crf, mm_cti, mm_ctl]) rfl dX12_number_49 ?_
    show V _ _ [] _
    refine mm_sub C [1, 2, 0] rfl ?_
    exact w_X12_number_52 hd C _ _ _ _ hK
def F_X12_number (a0 : Option Nat) (a1 : Int32) (a2 : Int32) (h : MH) : Option (Int32 × MH) := (gI h a0 12 10).bind fun v1 => if v1 = (2 : Int32) then ((gI h a0 12 11).bind fun v17 => mm_b2 (F_X12_within (v17.toInt64) (a1.toInt64) (a2.toInt64) h) fun v25 h25 => if v25 = 0 then ((cV h25 a0 12 (F_X12_blames a0 (3 : Int32) h25)).bind fun h33 => F_X12_number_36 a0 a1 h33) else (F_X12_number_36 a0 a1 h25)) else ((cV h a0 12 (F_X12_blames a0 (2 : Int32) h)).bind fun h10 => F_X12_number_36 a0 a1 h10)
set_option maxRecDepth 20000 in
set_option maxHeartbeats 4000000 in
theorem S_X12_number {d : Nat} (hd : 3 ≤ d) {a0 : Option Nat} {a1 : Int32} {a2 : Int32} {h : MH} {r : Int32} {hz : MH} (hK : F_X12_number a0 a1 a2 h = some (r, hz)) : mm_M yX12_number cX12_number 4 (some .int) d [va_rf a0, .int a1, .int a2] h (.inr (some (.int r))) hz := by
  refine mm_ofV (by decide +kernel) (by simp [lg_sl, mm_crf, mm_cti, mm_ctl]) (fun V C => ?_)
  rw [show lv_args 0 [va_rf a0, .int a1, .int a2] = [(0, va_rf a0), (1, .int a1), (2, .int a2)] by simp [lv_args, mm_crf, mm_cti, mm_ctl]]
  unfold F_X12_number at hK
  refine mm_aload_n C (pc := 0) 0 dX12_number_0 rfl ?_
  replace hK := mm_bd hK; obtain ⟨v1, e1, hK⟩ := hK
  refine mm_geti C (pc := 1) (k := 10) inGX12 rfl (by decide) wd_2009 dX12_number_1 e1 ?_
  refine mm_iconst C (pc := 4) (v := (2 : Int32)) dX12_number_4 (by decide) ?_
  refine mm_icmp_eq C (pc := 5) (tgt := 16) dX12_number_5 (by decide) (fun hc => ?_) (fun hc => ?_)
  · replace hK := mm_ip hc hK
    refine mm_aload_n C (pc := 16) 0 dX12_number_16 rfl ?_
    replace hK := mm_bd hK; obtain ⟨v17, e17, hK⟩ := hK
    refine mm_geti C (pc := 17) (k := 11) inGX12 rfl (by decide) wd_2010 dX12_number_17 e17 ?_
    refine mm_i2l C (pc := 20) dX12_number_20 ?_
    refine mm_iload_n C (pc := 21) 1 dX12_number_21 rfl ?_
    refine mm_i2l C (pc := 22) dX12_number_22 ?_
    refine mm_iload_n C (pc := 23) 2 dX12_number_23 rfl ?_
    refine mm_i2l C (pc := 24) dX12_number_24 ?_
    replace hK := mm_b2s hK; obtain ⟨v25, h25, e25, hK⟩ := hK
    refine mm_callS C (pc := 25) (d1 := 1) (As := [.long (v17.toInt64), .long (a1.toInt64), .long (a2.toInt64)]) (st := []) (vk := (some (.int v25))) ((S_X12_within (by omega)) e25) tT_X12_within wd_2157 wd_2158 (by omega) (by decide) rfl (by simp [mm_crf, mm_cti, mm_ctl]) rfl dX12_number_25 ?_
    show V _ _ (.int v25 :: _) _
    refine mm_if_ne C (pc := 28) (tgt := 36) dX12_number_28 (by decide) (fun hc => ?_) (fun hc => ?_)
    · replace hK := mm_in hc hK
      refine mm_sub C [0, 1] rfl ?_
      exact w_X12_number_36 hd C _ _ _ hK
    · replace hK := mm_ip hc hK
      refine mm_aload_n C (pc := 31) 0 dX12_number_31 rfl ?_
      refine mm_iconst C (pc := 32) (v := (3 : Int32)) dX12_number_32 (by decide) ?_
      replace hK := mm_bd hK; obtain ⟨h33, e33, hK⟩ := hK
      obtain ⟨o33, e33⟩ := cV_some e33
      refine mm_callV C (pc := 33) (d1 := 1) (As := [.int (3 : Int32)]) (st := []) (vk := none) ((S_X12_blames (by omega)) e33) tT_X12_blames o33 (Or.inr ⟨_, rfl, rfl⟩) wd_2196 wd_2198 wd_67 (by omega) (by decide) rfl (by simp [mm_crf, mm_cti, mm_ctl]) rfl dX12_number_33 ?_
      show V _ _ [] _
      refine mm_sub C [0, 1] rfl ?_
      exact w_X12_number_36 hd C _ _ _ hK
  · replace hK := mm_in hc hK
    refine mm_aload_n C (pc := 8) 0 dX12_number_8 rfl ?_
    refine mm_iconst C (pc := 9) (v := (2 : Int32)) dX12_number_9 (by decide) ?_
    replace hK := mm_bd hK; obtain ⟨h10, e10, hK⟩ := hK
    obtain ⟨o10, e10⟩ := cV_some e10
    refine mm_callV C (pc := 10) (d1 := 1) (As := [.int (2 : Int32)]) (st := []) (vk := none) ((S_X12_blames (by omega)) e10) tT_X12_blames o10 (Or.inr ⟨_, rfl, rfl⟩) wd_2196 wd_2198 wd_67 (by omega) (by decide) rfl (by simp [mm_crf, mm_cti, mm_ctl]) rfl dX12_number_10 ?_
    show V _ _ [] _
    refine mm_goto C (pc := 13) (tgt := 36) dX12_number_13 (by decide) ?_
    refine mm_sub C [0, 1] rfl ?_
    exact w_X12_number_36 hd C _ _ _ hK
theorem wd_2189 : Cond.code yX12_took cX12_took 3 (some .boolean) ∈ lw_good := mm_wd 2189 (by decide +kernel) (by decide +kernel)
theorem tT_X12_took : mm_T yX12_took cX12_took 3 (some .boolean) 1 := ⟨wd_2189, wd_170, by decide +kernel, by decide +kernel, by decide +kernel, by decide +kernel⟩
theorem wd_2186 : Cond.methodLink RX12 147 yX12_took ∈ lw_good := mm_wd 2186 (by decide +kernel) (by decide +kernel)
theorem wd_2188 : Cond.instanceMethod yX12_took ∈ lw_good := mm_wd 2188 (by decide +kernel) (by decide +kernel)
theorem wd_65 : Cond.selects RX12 yX12_took yX12_took ∈ lw_good := mm_wd 65 (by decide +kernel) (by decide +kernel)
def F_X12_mustWord_13 (h : MH) : Option MH := some h
set_option maxRecDepth 20000 in
set_option maxHeartbeats 4000000 in
theorem w_X12_mustWord_13 {d : Nat} {V : Nat → List (Nat × Value) → List Value → MH → Prop} {hz : MH} (hd : 7 ≤ d) (C : mm_C d yX12_mustWord cX12_mustWord 2 none (.inr none) hz V) (h : MH) (hK : F_X12_mustWord_13  h = some hz) : V 13 [] [] h := by
  unfold F_X12_mustWord_13 at hK
  cases hK
  exact mm_vret C (pc := 13) rfl dX12_mustWord_13 rfl rfl
def F_X12_mustWord (a0 : Option Nat) (a1 : Option Nat) (h : MH) : Option MH := mm_b2 (cV h a0 12 (F_X12_took a0 a1 h)) fun v2 h2 => if v2 = 0 then ((cV h2 a0 12 (F_X12_blames a0 (2 : Int32) h2)).bind fun h10 => F_X12_mustWord_13 h10) else (F_X12_mustWord_13 h2)
set_option maxRecDepth 20000 in
set_option maxHeartbeats 4000000 in
theorem S_X12_mustWord {d : Nat} (hd : 7 ≤ d) {a0 : Option Nat} {a1 : Option Nat} {h : MH} {hz : MH} (hK : F_X12_mustWord a0 a1 h = some hz) : mm_M yX12_mustWord cX12_mustWord 2 none d [va_rf a0, va_rf a1] h (.inr none) hz := by
  refine mm_ofV (by decide +kernel) (by simp [lg_sl, mm_crf, mm_cti, mm_ctl]) (fun V C => ?_)
  rw [show lv_args 0 [va_rf a0, va_rf a1] = [(0, va_rf a0), (1, va_rf a1)] by simp [lv_args, mm_crf, mm_cti, mm_ctl]]
  unfold F_X12_mustWord at hK
  refine mm_aload_n C (pc := 0) 0 dX12_mustWord_0 rfl ?_
  refine mm_aload_n C (pc := 1) 1 dX12_mustWord_1 rfl ?_
  replace hK := mm_b2s hK; obtain ⟨v2, h2, e2, hK⟩ := hK
  obtain ⟨o2, e2⟩ := cV_some e2
  refine mm_callV C (pc := 2) (d1 := 6) (As := [va_rf a1]) (st := []) (vk := (some (.int v2))) ((S_X12_took (by omega)) e2) tT_X12_took o2 (Or.inr ⟨_, rfl, rfl⟩) wd_2186 wd_2188 wd_65 (by omega) (by decide) rfl (by simp [mm_crf, mm_cti, mm_ctl]) rfl dX12_mustWord_2 ?_
  show V _ _ (.int v2 :: _) _
  refine mm_if_ne C (pc := 5) (tgt := 13) dX12_mustWord_5 (by decide) (fun hc => ?_) (fun hc => ?_)
  · replace hK := mm_in hc hK
    refine mm_sub C [] rfl ?_
    exact w_X12_mustWord_13 hd C _ hK
  · replace hK := mm_ip hc hK
    refine mm_aload_n C (pc := 8) 0 dX12_mustWord_8 rfl ?_
    refine mm_iconst C (pc := 9) (v := (2 : Int32)) dX12_mustWord_9 (by decide) ?_
    replace hK := mm_bd hK; obtain ⟨h10, e10, hK⟩ := hK
    obtain ⟨o10, e10⟩ := cV_some e10
    refine mm_callV C (pc := 10) (d1 := 1) (As := [.int (2 : Int32)]) (st := []) (vk := none) ((S_X12_blames (by omega)) e10) tT_X12_blames o10 (Or.inr ⟨_, rfl, rfl⟩) wd_2196 wd_2198 wd_67 (by omega) (by decide) rfl (by simp [mm_crf, mm_cti, mm_ctl]) rfl dX12_mustWord_10 ?_
    show V _ _ [] _
    refine mm_sub C [] rfl ?_
    exact w_X12_mustWord_13 hd C _ hK
theorem wd_2017 : Cond.fieldLink RX12 150 "CrossedLinesModel" "lawAt" "I" ∈ lw_good := mm_wd 2017 (by decide +kernel) (by decide +kernel)
theorem wd_2016 : Cond.fieldLink RX12 153 "CrossedLinesModel" "lawMany" "I" ∈ lw_good := mm_wd 2016 (by decide +kernel) (by decide +kernel)
def F_X12_laysStep (a0 : Option Nat) (a1 : Int32) (h : MH) : Option MH := (gI h a0 12 12).bind fun v1 => if v1 = 0 then ((gR h a0 12 1).bind fun v9 => (gI h a0 12 18).bind fun v13 => (gR h a0 12 1).bind fun v17 => (gI h a0 12 17).bind fun v21 => (aI h v17 0 v21).bind fun v24 => (sI h v9 0 (v13 + v24) a1).bind fun h27 => (gR h27 a0 12 1).bind fun v29 => (gI h27 a0 12 17).bind fun v33 => (aI h27 v29 0 v33).bind fun v37 => (sI h27 v29 0 v33 (v37 + (1 : Int32))).bind fun h40 => some h40) else (some h)
set_option maxRecDepth 20000 in
set_option maxHeartbeats 4000000 in
theorem S_X12_laysStep {d : Nat} (hd : 1 ≤ d) {a0 : Option Nat} {a1 : Int32} {h : MH} {hz : MH} (hK : F_X12_laysStep a0 a1 h = some hz) : mm_M yX12_laysStep cX12_laysStep 2 none d [va_rf a0, .int a1] h (.inr none) hz := by
  refine mm_ofV (by decide +kernel) (by simp [lg_sl, mm_crf, mm_cti, mm_ctl]) (fun V C => ?_)
  rw [show lv_args 0 [va_rf a0, .int a1] = [(0, va_rf a0), (1, .int a1)] by simp [lv_args, mm_crf, mm_cti, mm_ctl]]
  unfold F_X12_laysStep at hK
  refine mm_aload_n C (pc := 0) 0 dX12_laysStep_0 rfl ?_
  replace hK := mm_bd hK; obtain ⟨v1, e1, hK⟩ := hK
  refine mm_geti C (pc := 1) (k := 12) inGX12 rfl (by decide) wd_2011 dX12_laysStep_1 e1 ?_
  refine mm_if_eq C (pc := 4) (tgt := 8) dX12_laysStep_4 (by decide) (fun hc => ?_) (fun hc => ?_)
  · replace hK := mm_ip hc hK
    refine mm_aload_n C (pc := 8) 0 dX12_laysStep_8 rfl ?_
    replace hK := mm_bd hK; obtain ⟨v9, e9, hK⟩ := hK
    refine mm_getr C (pc := 9) (k := 1) inGX12 rfl (by decide) wd_2000 dX12_laysStep_9 e9 ?_
    refine mm_aload_n C (pc := 12) 0 dX12_laysStep_12 rfl ?_
    replace hK := mm_bd hK; obtain ⟨v13, e13, hK⟩ := hK
    refine mm_geti C (pc := 13) (k := 18) inGX12 rfl (by decide) wd_2017 dX12_laysStep_13 e13 ?_
    refine mm_aload_n C (pc := 16) 0 dX12_laysStep_16 rfl ?_
    replace hK := mm_bd hK; obtain ⟨v17, e17, hK⟩ := hK
    refine mm_getr C (pc := 17) (k := 1) inGX12 rfl (by decide) wd_2000 dX12_laysStep_17 e17 ?_
    refine mm_aload_n C (pc := 20) 0 dX12_laysStep_20 rfl ?_
    replace hK := mm_bd hK; obtain ⟨v21, e21, hK⟩ := hK
    refine mm_geti C (pc := 21) (k := 17) inGX12 rfl (by decide) wd_2016 dX12_laysStep_21 e21 ?_
    replace hK := mm_bd hK; obtain ⟨v24, e24, hK⟩ := hK
    refine mm_iald C (pc := 24) dX12_laysStep_24 e24 ?_
    refine mm_iadd C (pc := 25) dX12_laysStep_25 ?_
    refine mm_iload_n C (pc := 26) 1 dX12_laysStep_26 rfl ?_
    replace hK := mm_bd hK; obtain ⟨h27, e27, hK⟩ := hK
    refine mm_iast C (pc := 27) dX12_laysStep_27 e27 ?_
    refine mm_aload_n C (pc := 28) 0 dX12_laysStep_28 rfl ?_
    replace hK := mm_bd hK; obtain ⟨v29, e29, hK⟩ := hK
    refine mm_getr C (pc := 29) (k := 1) inGX12 rfl (by decide) wd_2000 dX12_laysStep_29 e29 ?_
    refine mm_aload_n C (pc := 32) 0 dX12_laysStep_32 rfl ?_
    replace hK := mm_bd hK; obtain ⟨v33, e33, hK⟩ := hK
    refine mm_geti C (pc := 33) (k := 17) inGX12 rfl (by decide) wd_2016 dX12_laysStep_33 e33 ?_
    refine mm_dup2 C (pc := 36) dX12_laysStep_36 rfl mm_crf ?_
    replace hK := mm_bd hK; obtain ⟨v37, e37, hK⟩ := hK
    refine mm_iald C (pc := 37) dX12_laysStep_37 e37 ?_
    refine mm_iconst C (pc := 38) (v := (1 : Int32)) dX12_laysStep_38 (by decide) ?_
    refine mm_iadd C (pc := 39) dX12_laysStep_39 ?_
    replace hK := mm_bd hK; obtain ⟨h40, e40, hK⟩ := hK
    refine mm_iast C (pc := 40) dX12_laysStep_40 e40 ?_
    cases hK
    exact mm_vret C (pc := 41) rfl dX12_laysStep_41 rfl rfl
  · replace hK := mm_in hc hK
    cases hK
    exact mm_vret C (pc := 7) rfl dX12_laysStep_7 rfl rfl
theorem wd_2211 : Cond.code yX12_mustSign cX12_mustSign 2 none ∈ lw_good := mm_wd 2211 (by decide +kernel) (by decide +kernel)
theorem tT_X12_mustSign : mm_T yX12_mustSign cX12_mustSign 2 none 1 := ⟨wd_2211, wd_170, by decide +kernel, by decide +kernel, by decide +kernel, by decide +kernel⟩
theorem wd_2208 : Cond.methodLink RX12 156 yX12_mustSign ∈ lw_good := mm_wd 2208 (by decide +kernel) (by decide +kernel)
theorem wd_2210 : Cond.instanceMethod yX12_mustSign ∈ lw_good := mm_wd 2210 (by decide +kernel) (by decide +kernel)
theorem wd_70 : Cond.selects RX12 yX12_mustSign yX12_mustSign ∈ lw_good := mm_wd 70 (by decide +kernel) (by decide +kernel)
def F_X12_beginsLaw (a0 : Option Nat) (a1 : Int32) (a2 : Int32) (h : MH) : Option MH := (pI h a0 12 17 a1).bind fun h2 => (pI h2 a0 12 18 a2).bind fun h7 => (gR h7 a0 12 1).bind fun v11 => (sI h7 v11 0 a1 (0 : Int32)).bind fun h16 => (cV h16 a0 12 (F_X12_mustSign a0 (58 : Int32) h16)).bind fun h20 => some h20
set_option maxRecDepth 20000 in
set_option maxHeartbeats 4000000 in
theorem S_X12_beginsLaw {d : Nat} (hd : 4 ≤ d) {a0 : Option Nat} {a1 : Int32} {a2 : Int32} {h : MH} {hz : MH} (hK : F_X12_beginsLaw a0 a1 a2 h = some hz) : mm_M yX12_beginsLaw cX12_beginsLaw 3 none d [va_rf a0, .int a1, .int a2] h (.inr none) hz := by
  refine mm_ofV (by decide +kernel) (by simp [lg_sl, mm_crf, mm_cti, mm_ctl]) (fun V C => ?_)
  rw [show lv_args 0 [va_rf a0, .int a1, .int a2] = [(0, va_rf a0), (1, .int a1), (2, .int a2)] by simp [lv_args, mm_crf, mm_cti, mm_ctl]]
  unfold F_X12_beginsLaw at hK
  refine mm_aload_n C (pc := 0) 0 dX12_beginsLaw_0 rfl ?_
  refine mm_iload_n C (pc := 1) 1 dX12_beginsLaw_1 rfl ?_
  replace hK := mm_bd hK; obtain ⟨h2, e2, hK⟩ := hK
  refine mm_puti C (pc := 2) (k := 17) false (fun z => by cases z) inGX12 tyX12 tyX12_ok nmX12 rfl (by decide) wd_2016 rfl rfl dX12_beginsLaw_2 e2 ?_
  refine mm_aload_n C (pc := 5) 0 dX12_beginsLaw_5 rfl ?_
  refine mm_iload_n C (pc := 6) 2 dX12_beginsLaw_6 rfl ?_
  replace hK := mm_bd hK; obtain ⟨h7, e7, hK⟩ := hK
  refine mm_puti C (pc := 7) (k := 18) false (fun z => by cases z) inGX12 tyX12 tyX12_ok nmX12 rfl (by decide) wd_2017 rfl rfl dX12_beginsLaw_7 e7 ?_
  refine mm_aload_n C (pc := 10) 0 dX12_beginsLaw_10 rfl ?_
  replace hK := mm_bd hK; obtain ⟨v11, e11, hK⟩ := hK
  refine mm_getr C (pc := 11) (k := 1) inGX12 rfl (by decide) wd_2000 dX12_beginsLaw_11 e11 ?_
  refine mm_iload_n C (pc := 14) 1 dX12_beginsLaw_14 rfl ?_
  refine mm_iconst C (pc := 15) (v := (0 : Int32)) dX12_beginsLaw_15 (by decide) ?_
  replace hK := mm_bd hK; obtain ⟨h16, e16, hK⟩ := hK
  refine mm_iast C (pc := 16) dX12_beginsLaw_16 e16 ?_
  refine mm_aload_n C (pc := 17) 0 dX12_beginsLaw_17 rfl ?_
  refine mm_bipush C (pc := 18) (v := (58 : Int32)) dX12_beginsLaw_18 (by decide) ?_
  replace hK := mm_bd hK; obtain ⟨h20, e20, hK⟩ := hK
  obtain ⟨o20, e20⟩ := cV_some e20
  refine mm_callV C (pc := 20) (d1 := 3) (As := [.int (58 : Int32)]) (st := []) (vk := none) ((S_X12_mustSign (by omega)) e20) tT_X12_mustSign o20 (Or.inr ⟨_, rfl, rfl⟩) wd_2208 wd_2210 wd_70 (by omega) (by decide) rfl (by simp [mm_crf, mm_cti, mm_ctl]) rfl dX12_beginsLaw_20 ?_
  show V _ _ [] _
  cases hK
  exact mm_vret C (pc := 23) rfl dX12_beginsLaw_23 rfl rfl
theorem wd_2015 : Cond.fieldLink RX12 159 "CrossedLinesModel" "deep" "I" ∈ lw_good := mm_wd 2015 (by decide +kernel) (by decide +kernel)
def F_X12_goesIn_35 (h : MH) : Option MH := some h
set_option maxRecDepth 20000 in
set_option maxHeartbeats 4000000 in
theorem w_X12_goesIn_35 {d : Nat} {V : Nat → List (Nat × Value) → List Value → MH → Prop} {hz : MH} (hd : 3 ≤ d) (C : mm_C d yX12_goesIn cX12_goesIn 1 none (.inr none) hz V) (h : MH) (hK : F_X12_goesIn_35  h = some hz) : V 35 [] [] h := by
  unfold F_X12_goesIn_35 at hK
  cases hK
  exact mm_vret C (pc := 35) rfl dX12_goesIn_35 rfl rfl
def F_X12_goesIn_14 (l0 : Option Nat) (h : MH) : Option MH := (gI h l0 12 16).bind fun v16 => (pI h l0 12 16 (v16 + (1 : Int32))).bind fun h21 => (gI h21 l0 12 12).bind fun v25 => if v25 = 0 then ((cV h21 l0 12 (F_X12_readsOn l0 h21)).bind fun h32 => F_X12_goesIn_35 h32) else (F_X12_goesIn_35 h21)
set_option maxRecDepth 20000 in
set_option maxHeartbeats 4000000 in
theorem w_X12_goesIn_14 {d : Nat} {V : Nat → List (Nat × Value) → List Value → MH → Prop} {hz : MH} (hd : 3 ≤ d) (C : mm_C d yX12_goesIn cX12_goesIn 1 none (.inr none) hz V) (l0 : Option Nat) (h : MH) (hK : F_X12_goesIn_14 l0 h = some hz) : V 14 [(0, va_rf l0)] [] h := by
  unfold F_X12_goesIn_14 at hK
  refine mm_aload_n C (pc := 14) 0 dX12_goesIn_14 rfl ?_
  refine mm_dup C (pc := 15) dX12_goesIn_15 mm_crf ?_
  replace hK := mm_bd hK; obtain ⟨v16, e16, hK⟩ := hK
  refine mm_geti C (pc := 16) (k := 16) inGX12 rfl (by decide) wd_2015 dX12_goesIn_16 e16 ?_
  refine mm_iconst C (pc := 19) (v := (1 : Int32)) dX12_goesIn_19 (by decide) ?_
  refine mm_iadd C (pc := 20) dX12_goesIn_20 ?_
  replace hK := mm_bd hK; obtain ⟨h21, e21, hK⟩ := hK
  refine mm_puti C (pc := 21) (k := 16) false (fun z => by cases z) inGX12 tyX12 tyX12_ok nmX12 rfl (by decide) wd_2015 rfl rfl dX12_goesIn_21 e21 ?_
  refine mm_aload_n C (pc := 24) 0 dX12_goesIn_24 rfl ?_
  replace hK := mm_bd hK; obtain ⟨v25, e25, hK⟩ := hK
  refine mm_geti C (pc := 25) (k := 12) inGX12 rfl (by decide) wd_2011 dX12_goesIn_25 e25 ?_
  refine mm_if_ne C (pc := 28) (tgt := 35) dX12_goesIn_28 (by decide) (fun hc => ?_) (fun hc => ?_)
  · replace hK := mm_in hc hK
    refine mm_sub C [] rfl ?_
    exact w_X12_goesIn_35 hd C _ hK
  · replace hK := mm_ip hc hK
    refine mm_aload_n C (pc := 31) 0 dX12_goesIn_31 rfl ?_
    replace hK := mm_bd hK; obtain ⟨h32, e32, hK⟩ := hK
    obtain ⟨o32, e32⟩ := cV_some e32
    refine mm_callV C (pc := 32) (d1 := 2) (As := []) (st := []) (vk := none) ((S_X12_readsOn (by omega)) e32) tT_X12_readsOn o32 (Or.inr ⟨_, rfl, rfl⟩) wd_2164 wd_2166 wd_62 (by omega) (by decide) rfl (by simp [mm_crf, mm_cti, mm_ctl]) rfl dX12_goesIn_32 ?_
    show V _ _ [] _
    refine mm_sub C [] rfl ?_
    exact w_X12_goesIn_35 hd C _ hK
def F_X12_goesIn (a0 : Option Nat) (h : MH) : Option MH := (gI h a0 12 16).bind fun v1 => if v1 = (6 : Int32) then ((cV h a0 12 (F_X12_blames a0 (4 : Int32) h)).bind fun h11 => F_X12_goesIn_14 a0 h11) else (F_X12_goesIn_14 a0 h)
set_option maxRecDepth 20000 in
set_option maxHeartbeats 4000000 in
theorem S_X12_goesIn {d : Nat} (hd : 3 ≤ d) {a0 : Option Nat} {h : MH} {hz : MH} (hK : F_X12_goesIn a0 h = some hz) : mm_M yX12_goesIn cX12_goesIn 1 none d [va_rf a0] h (.inr none) hz := by
  refine mm_ofV (by decide +kernel) (by simp [lg_sl, mm_crf, mm_cti, mm_ctl]) (fun V C => ?_)
  rw [show lv_args 0 [va_rf a0] = [(0, va_rf a0)] by simp [lv_args, mm_crf, mm_cti, mm_ctl]]
  unfold F_X12_goesIn at hK
  refine mm_aload_n C (pc := 0) 0 dX12_goesIn_0 rfl ?_
  replace hK := mm_bd hK; obtain ⟨v1, e1, hK⟩ := hK
  refine mm_geti C (pc := 1) (k := 16) inGX12 rfl (by decide) wd_2015 dX12_goesIn_1 e1 ?_
  refine mm_bipush C (pc := 4) (v := (6 : Int32)) dX12_goesIn_4 (by decide) ?_
  refine mm_icmp_ne C (pc := 6) (tgt := 14) dX12_goesIn_6 (by decide) (fun hc => ?_) (fun hc => ?_)
  · replace hK := mm_in hc hK
    exact w_X12_goesIn_14 hd C _ _ hK
  · replace hK := mm_ip hc hK
    refine mm_aload_n C (pc := 9) 0 dX12_goesIn_9 rfl ?_
    refine mm_iconst C (pc := 10) (v := (4 : Int32)) dX12_goesIn_10 (by decide) ?_
    replace hK := mm_bd hK; obtain ⟨h11, e11, hK⟩ := hK
    obtain ⟨o11, e11⟩ := cV_some e11
    refine mm_callV C (pc := 11) (d1 := 1) (As := [.int (4 : Int32)]) (st := []) (vk := none) ((S_X12_blames (by omega)) e11) tT_X12_blames o11 (Or.inr ⟨_, rfl, rfl⟩) wd_2196 wd_2198 wd_67 (by omega) (by decide) rfl (by simp [mm_crf, mm_cti, mm_ctl]) rfl dX12_goesIn_11 ?_
    show V _ _ [] _
    exact w_X12_goesIn_14 hd C _ _ hK
