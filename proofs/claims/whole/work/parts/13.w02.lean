theorem wd_1347 : Cond.code yX7_readUnit cX7_readUnit 4 (some .boolean) ∈ lw_good := mm_wd 1347 (by decide +kernel) (by decide +kernel)
theorem tT_X7_readUnit : mm_T yX7_readUnit cX7_readUnit 4 (some .boolean) 1 := ⟨wd_1347, wd_148, by decide +kernel, by decide +kernel, by decide +kernel, by decide +kernel⟩
theorem wd_1344 : Cond.methodLink RX7 175 yX7_readUnit ∈ lw_good := mm_wd 1344 (by decide +kernel) (by decide +kernel)
theorem wd_1346 : Cond.instanceMethod yX7_readUnit ∈ lw_good := mm_wd 1346 (by decide +kernel) (by decide +kernel)
theorem wd_28 : Cond.selects RX7 yX7_readUnit yX7_readUnit ∈ lw_good := mm_wd 28 (by decide +kernel) (by decide +kernel)
theorem wd_1343 : Cond.code yX7_readBoth cX7_readBoth 4 (some .boolean) ∈ lw_good := mm_wd 1343 (by decide +kernel) (by decide +kernel)
theorem tT_X7_readBoth : mm_T yX7_readBoth cX7_readBoth 4 (some .boolean) 1 := ⟨wd_1343, wd_148, by decide +kernel, by decide +kernel, by decide +kernel, by decide +kernel⟩
theorem wd_1340 : Cond.methodLink RX7 167 yX7_readBoth ∈ lw_good := mm_wd 1340 (by decide +kernel) (by decide +kernel)
theorem wd_1342 : Cond.instanceMethod yX7_readBoth ∈ lw_good := mm_wd 1342 (by decide +kernel) (by decide +kernel)
theorem wd_27 : Cond.selects RX7 yX7_readBoth yX7_readBoth ∈ lw_good := mm_wd 27 (by decide +kernel) (by decide +kernel)
theorem wd_1386 : Cond.code yX7_relation cX7_relation 1 (some .int) ∈ lw_good := mm_wd 1386 (by decide +kernel) (by decide +kernel)
theorem tT_X7_relation : mm_T yX7_relation cX7_relation 1 (some .int) 0 := ⟨wd_1386, wd_148, by decide +kernel, by decide +kernel, by decide +kernel, by decide +kernel⟩
theorem wd_1383 : Cond.methodLink RX7 185 yX7_relation ∈ lw_good := mm_wd 1383 (by decide +kernel) (by decide +kernel)
theorem wd_1385 : Cond.instanceMethod yX7_relation ∈ lw_good := mm_wd 1385 (by decide +kernel) (by decide +kernel)
theorem wd_36 : Cond.selects RX7 yX7_relation yX7_relation ∈ lw_good := mm_wd 36 (by decide +kernel) (by decide +kernel)
theorem wd_1339 : Cond.code yX7_readTruth cX7_readTruth 4 (some .boolean) ∈ lw_good := mm_wd 1339 (by decide +kernel) (by decide +kernel)
theorem tT_X7_readTruth : mm_T yX7_readTruth cX7_readTruth 4 (some .boolean) 1 := ⟨wd_1339, wd_148, by decide +kernel, by decide +kernel, by decide +kernel, by decide +kernel⟩
theorem wd_1336 : Cond.methodLink RX7 161 yX7_readTruth ∈ lw_good := mm_wd 1336 (by decide +kernel) (by decide +kernel)
theorem wd_1338 : Cond.instanceMethod yX7_readTruth ∈ lw_good := mm_wd 1338 (by decide +kernel) (by decide +kernel)
theorem wd_26 : Cond.selects RX7 yX7_readTruth yX7_readTruth ∈ lw_good := mm_wd 26 (by decide +kernel) (by decide +kernel)
abbrev PT_X7_readBoth : Type := (Option Nat → Int32 → MH → Option (Int32 × MH)) × (Option Nat → Int32 → MH → Option (Int32 × MH)) × (Option Nat → Int32 → MH → Option (Int32 × MH))
def PH_X7_readBoth (p : PT_X7_readBoth) (d0 : Nat) : Prop := (∀ d : Nat, d0 ≤ d → ∀ {a0 : Option Nat} {a1 : Int32} {h : MH} {r : Int32} {hz : MH}, p.1 a0 a1 h = some (r, hz) → mm_M yX7_readBoth cX7_readBoth 4 (some .boolean) d [va_rf a0, .int a1] h (.inr (some (.int r))) hz) ∧ (∀ d : Nat, d0 ≤ d → ∀ {a0 : Option Nat} {a1 : Int32} {h : MH} {r : Int32} {hz : MH}, p.2.1 a0 a1 h = some (r, hz) → mm_M yX7_readTruth cX7_readTruth 4 (some .boolean) d [va_rf a0, .int a1] h (.inr (some (.int r))) hz) ∧ (∀ d : Nat, d0 ≤ d → ∀ {a0 : Option Nat} {a1 : Int32} {h : MH} {r : Int32} {hz : MH}, p.2.2 a0 a1 h = some (r, hz) → mm_M yX7_readUnit cX7_readUnit 4 (some .boolean) d [va_rf a0, .int a1] h (.inr (some (.int r))) hz)
def F_X7_readBoth_57 (p : PT_X7_readBoth) (l2 : Int32) (h : MH) : Option (Int32 × MH) := rZ l2 h
set_option maxRecDepth 20000 in
set_option maxHeartbeats 4000000 in
theorem w_X7_readBoth_57 {d : Nat} {V : Nat → List (Nat × Value) → List Value → MH → Prop} {r : Int32} {hz : MH} {p : PT_X7_readBoth} {d0 : Nat} (hd0 : d0 + 1 ≤ d) (hp : PH_X7_readBoth p d0) (hd : 6 ≤ d) (C : mm_C d yX7_readBoth cX7_readBoth 4 (some .boolean) (.inr (some (.int r))) hz V) (l2 : Int32) (h : MH) (hK : F_X7_readBoth_57 p l2 h = some (r, hz)) : V 57 [(2, .int l2)] [] h := by
  unfold F_X7_readBoth_57 at hK
  refine mm_iload_n C (pc := 57) 0 dX7_readBoth_57 rfl ?_
  replace hK := rZ_some hK; obtain ⟨hv58, hK⟩ := hK
  cases hK
  exact mm_zret C (pc := 58) rfl (mm_nrZ hv58) dX7_readBoth_58 rfl rfl
def F_X7_readBoth_8 (p : PT_X7_readBoth) : Nat → Option Nat → Int32 → Int32 → Int32 → MH → Option (Int32 × MH)
  | 0 => fun _ _ _ _ _ => none
  | n + 1 => fun l0 l1 l2 l3 h => if (900 : Int32) ≤ l3 then (F_X7_readBoth_57 p l2 h) else (if l2 = 0 then (F_X7_readBoth_57 p l2 h) else ((gR h l0 7 0).bind fun v20 => mm_b2 (cV h v20 9 (F_X9_isWord v20 (some 17 : Option Nat) h)) fun v25 h25 => if v25 = 0 then (F_X7_readBoth_57 p l2 h25) else ((gR h25 l0 7 0).bind fun v32 => (cV h25 v32 9 (F_X9_advance v32 h25)).bind fun h35 => mm_b2 (cV h35 l0 7 (p.2.2 l0 l1 h35)) fun v40 h40 => (cV h40 l0 7 (F_X7_emit l0 (2006 : Int32) h40)).bind fun h48 => F_X7_readBoth_8 p n l0 l1 v40 (l3 + (1 : Int32)) h48)))
set_option maxRecDepth 20000 in
set_option maxHeartbeats 4000000 in
theorem w_X7_readBoth_8 {d : Nat} {V : Nat → List (Nat × Value) → List Value → MH → Prop} {r : Int32} {hz : MH} {p : PT_X7_readBoth} {d0 : Nat} (hd0 : d0 + 1 ≤ d) (hp : PH_X7_readBoth p d0) (hd : 6 ≤ d) (C : mm_C d yX7_readBoth cX7_readBoth 4 (some .boolean) (.inr (some (.int r))) hz V) : ∀ (n : Nat) (l0 : Option Nat) (l1 : Int32) (l2 : Int32) (l3 : Int32) (h : MH), F_X7_readBoth_8 p n l0 l1 l2 l3 h = some (r, hz) → V 8 [(0, va_rf l0), (1, .int l1), (2, .int l2), (3, .int l3)] [] h := by
  intro n
  induction n with
  | zero => intro l0 l1 l2 l3 h hK; cases hK
  | succ n ih =>
    intro l0 l1 l2 l3 h hK
    replace hK : (if (900 : Int32) ≤ l3 then (F_X7_readBoth_57 p l2 h) else (if l2 = 0 then (F_X7_readBoth_57 p l2 h) else ((gR h l0 7 0).bind fun v20 => mm_b2 (cV h v20 9 (F_X9_isWord v20 (some 17 : Option Nat) h)) fun v25 h25 => if v25 = 0 then (F_X7_readBoth_57 p l2 h25) else ((gR h25 l0 7 0).bind fun v32 => (cV h25 v32 9 (F_X9_advance v32 h25)).bind fun h35 => mm_b2 (cV h35 l0 7 (p.2.2 l0 l1 h35)) fun v40 h40 => (cV h40 l0 7 (F_X7_emit l0 (2006 : Int32) h40)).bind fun h48 => F_X7_readBoth_8 p n l0 l1 v40 (l3 + (1 : Int32)) h48)))) = some (r, hz) := hK
    refine mm_iload_n C (pc := 8) 3 dX7_readBoth_8 rfl ?_
    refine mm_sipush C (pc := 9) (v := (900 : Int32)) dX7_readBoth_9 (by decide) ?_
    refine mm_icmp_ge C (pc := 12) (tgt := 57) dX7_readBoth_12 (by decide) (fun hc => ?_) (fun hc => ?_)
    · replace hK := mm_ip hc hK
      refine mm_sub C [2] rfl ?_
      exact w_X7_readBoth_57 hd0 hp hd C _ _ hK
    · replace hK := mm_in hc hK
      refine mm_iload_n C (pc := 15) 2 dX7_readBoth_15 rfl ?_
      refine mm_if_eq C (pc := 16) (tgt := 57) dX7_readBoth_16 (by decide) (fun hc => ?_) (fun hc => ?_)
      · replace hK := mm_ip hc hK
        refine mm_sub C [2] rfl ?_
        exact w_X7_readBoth_57 hd0 hp hd C _ _ hK
      · replace hK := mm_in hc hK
        refine mm_aload_n C (pc := 19) 0 dX7_readBoth_19 rfl ?_
        replace hK := mm_bd hK; obtain ⟨v20, e20, hK⟩ := hK
        refine mm_getr C (pc := 20) (k := 0) inGX7 rfl (by decide) wd_351 dX7_readBoth_20 e20 ?_
        refine mm_ldcS C (pc := 23) (i := 17) (by decide) (by rfl) dX7_readBoth_23 ?_
        replace hK := mm_b2s hK; obtain ⟨v25, h25, e25, hK⟩ := hK
        obtain ⟨o25, e25⟩ := cV_some e25
        refine mm_callV C (pc := 25) (d1 := 5) (As := [va_rf (some 17 : Option Nat)]) (st := []) (vk := (some (.int v25))) ((S_X9_isWord (by omega)) e25) tT_X9_isWord o25 (Or.inr ⟨_, rfl, rfl⟩) wd_1252 wd_1253 wd_1254 (by omega) (by decide) rfl (by simp [mm_crf, mm_cti, mm_ctl]) rfl dX7_readBoth_25 ?_
        show V _ _ (.int v25 :: _) _
        refine mm_if_eq C (pc := 28) (tgt := 57) dX7_readBoth_28 (by decide) (fun hc => ?_) (fun hc => ?_)
        · replace hK := mm_ip hc hK
          refine mm_sub C [2] rfl ?_
          exact w_X7_readBoth_57 hd0 hp hd C _ _ hK
        · replace hK := mm_in hc hK
          refine mm_aload_n C (pc := 31) 0 dX7_readBoth_31 rfl ?_
          replace hK := mm_bd hK; obtain ⟨v32, e32, hK⟩ := hK
          refine mm_getr C (pc := 32) (k := 0) inGX7 rfl (by decide) wd_351 dX7_readBoth_32 e32 ?_
          replace hK := mm_bd hK; obtain ⟨h35, e35, hK⟩ := hK
          obtain ⟨o35, e35⟩ := cV_some e35
          refine mm_callV C (pc := 35) (d1 := 5) (As := []) (st := []) (vk := none) ((S_X9_advance (by omega)) e35) tT_X9_advance o35 (Or.inr ⟨_, rfl, rfl⟩) wd_1289 wd_1185 wd_1186 (by omega) (by decide) rfl (by simp [mm_crf, mm_cti, mm_ctl]) rfl dX7_readBoth_35 ?_
          show V _ _ [] _
          refine mm_aload_n C (pc := 38) 0 dX7_readBoth_38 rfl ?_
          refine mm_iload_n C (pc := 39) 1 dX7_readBoth_39 rfl ?_
          replace hK := mm_b2s hK; obtain ⟨v40, h40, e40, hK⟩ := hK
          obtain ⟨o40, e40⟩ := cV_some e40
          refine mm_callV C (pc := 40) (d1 := d0) (As := [.int l1]) (st := []) (vk := (some (.int v40))) ((hp.2.2 _ (by omega) ) e40) tT_X7_readUnit o40 (Or.inr ⟨_, rfl, rfl⟩) wd_1344 wd_1346 wd_28 (by omega) (by decide) rfl (by simp [mm_crf, mm_cti, mm_ctl]) rfl dX7_readBoth_40 ?_
          show V _ _ (.int v40 :: _) _
          refine mm_istore_n C (pc := 43) (i := 2) (lv' := [(2, .int v40), (0, va_rf l0), (1, .int l1), (3, .int l3)]) dX7_readBoth_43 rfl (by decide) rfl ?_
          refine mm_aload_n C (pc := 44) 1 dX7_readBoth_44 rfl ?_
          refine mm_sipush C (pc := 45) (v := (2006 : Int32)) dX7_readBoth_45 (by decide) ?_
          replace hK := mm_bd hK; obtain ⟨h48, e48, hK⟩ := hK
          obtain ⟨o48, e48⟩ := cV_some e48
          refine mm_callV C (pc := 48) (d1 := 1) (As := [.int (2006 : Int32)]) (st := []) (vk := none) ((S_X7_emit (by omega)) e48) tT_X7_emit o48 (Or.inr ⟨_, rfl, rfl⟩) wd_1353 wd_1355 wd_30 (by omega) (by decide) rfl (by simp [mm_crf, mm_cti, mm_ctl]) rfl dX7_readBoth_48 ?_
          show V _ _ [] _
          refine mm_iinc C (pc := 51) (v := (l3 + (1 : Int32))) (lv' := [(3, .int (l3 + (1 : Int32))), (2, .int v40), (0, va_rf l0), (1, .int l1)]) 3 dX7_readBoth_51 rfl rfl (by decide) rfl ?_
          refine mm_goto C (pc := 54) (tgt := 8) dX7_readBoth_54 (by decide) ?_
          refine mm_sub C [2, 3, 1, 0] rfl ?_
          exact ih _ _ _ _ _ hK
def F_X7_readBoth (p : PT_X7_readBoth) (a0 : Option Nat) (a1 : Int32) (h : MH) : Option (Int32 × MH) := mm_b2 (cV h a0 7 (p.2.2 a0 a1 h)) fun v2 h2 => F_X7_readBoth_8 p mm_N a0 a1 v2 (0 : Int32) h2
set_option maxRecDepth 20000 in
set_option maxHeartbeats 4000000 in
theorem S_X7_readBoth {d : Nat} {p : PT_X7_readBoth} {d0 : Nat} (hd0 : d0 + 1 ≤ d) (hp : PH_X7_readBoth p d0) (hd : 6 ≤ d) {a0 : Option Nat} {a1 : Int32} {h : MH} {r : Int32} {hz : MH} (hK : F_X7_readBoth p a0 a1 h = some (r, hz)) : mm_M yX7_readBoth cX7_readBoth 4 (some .boolean) d [va_rf a0, .int a1] h (.inr (some (.int r))) hz := by
  refine mm_ofV (by decide +kernel) (by simp [lg_sl, mm_crf, mm_cti, mm_ctl]) (fun V C => ?_)
  rw [show lv_args 0 [va_rf a0, .int a1] = [(0, va_rf a0), (1, .int a1)] by simp [lv_args, mm_crf, mm_cti, mm_ctl]]
  unfold F_X7_readBoth at hK
  refine mm_aload_n C (pc := 0) 0 dX7_readBoth_0 rfl ?_
  refine mm_iload_n C (pc := 1) 1 dX7_readBoth_1 rfl ?_
  replace hK := mm_b2s hK; obtain ⟨v2, h2, e2, hK⟩ := hK
  obtain ⟨o2, e2⟩ := cV_some e2
  refine mm_callV C (pc := 2) (d1 := d0) (As := [.int a1]) (st := []) (vk := (some (.int v2))) ((hp.2.2 _ (by omega) ) e2) tT_X7_readUnit o2 (Or.inr ⟨_, rfl, rfl⟩) wd_1344 wd_1346 wd_28 (by omega) (by decide) rfl (by simp [mm_crf, mm_cti, mm_ctl]) rfl dX7_readBoth_2 ?_
  show V _ _ (.int v2 :: _) _
  refine mm_istore_n C (pc := 5) (i := 2) (lv' := [(2, .int v2), (0, va_rf a0), (1, .int a1)]) dX7_readBoth_5 rfl (by decide) rfl ?_
  refine mm_iconst C (pc := 6) (v := (0 : Int32)) dX7_readBoth_6 (by decide) ?_
  refine mm_istore_n C (pc := 7) (i := 3) (lv' := [(3, .int (0 : Int32)), (2, .int v2), (0, va_rf a0), (1, .int a1)]) dX7_readBoth_7 rfl (by decide) rfl ?_
  refine mm_sub C [2, 3, 1, 0] rfl ?_
  exact w_X7_readBoth_8 hd0 hp hd C _ _ _ _ _ _ hK
def F_X7_readTruth_57 (p : PT_X7_readBoth) (l2 : Int32) (h : MH) : Option (Int32 × MH) := rZ l2 h
set_option maxRecDepth 20000 in
set_option maxHeartbeats 4000000 in
theorem w_X7_readTruth_57 {d : Nat} {V : Nat → List (Nat × Value) → List Value → MH → Prop} {r : Int32} {hz : MH} {p : PT_X7_readBoth} {d0 : Nat} (hd0 : d0 + 1 ≤ d) (hp : PH_X7_readBoth p d0) (hd : 6 ≤ d) (C : mm_C d yX7_readTruth cX7_readTruth 4 (some .boolean) (.inr (some (.int r))) hz V) (l2 : Int32) (h : MH) (hK : F_X7_readTruth_57 p l2 h = some (r, hz)) : V 57 [(2, .int l2)] [] h := by
  unfold F_X7_readTruth_57 at hK
  refine mm_iload_n C (pc := 57) 0 dX7_readTruth_57 rfl ?_
  replace hK := rZ_some hK; obtain ⟨hv58, hK⟩ := hK
  cases hK
  exact mm_zret C (pc := 58) rfl (mm_nrZ hv58) dX7_readTruth_58 rfl rfl
def F_X7_readTruth_8 (p : PT_X7_readBoth) : Nat → Option Nat → Int32 → Int32 → Int32 → MH → Option (Int32 × MH)
  | 0 => fun _ _ _ _ _ => none
  | n + 1 => fun l0 l1 l2 l3 h => if (900 : Int32) ≤ l3 then (F_X7_readTruth_57 p l2 h) else (if l2 = 0 then (F_X7_readTruth_57 p l2 h) else ((gR h l0 7 0).bind fun v20 => mm_b2 (cV h v20 9 (F_X9_isWord v20 (some 18 : Option Nat) h)) fun v25 h25 => if v25 = 0 then (F_X7_readTruth_57 p l2 h25) else ((gR h25 l0 7 0).bind fun v32 => (cV h25 v32 9 (F_X9_advance v32 h25)).bind fun h35 => mm_b2 (cV h35 l0 7 (p.1 l0 l1 h35)) fun v40 h40 => (cV h40 l0 7 (F_X7_emit l0 (2007 : Int32) h40)).bind fun h48 => F_X7_readTruth_8 p n l0 l1 v40 (l3 + (1 : Int32)) h48)))
set_option maxRecDepth 20000 in
set_option maxHeartbeats 4000000 in
theorem w_X7_readTruth_8 {d : Nat} {V : Nat → List (Nat × Value) → List Value → MH → Prop} {r : Int32} {hz : MH} {p : PT_X7_readBoth} {d0 : Nat} (hd0 : d0 + 1 ≤ d) (hp : PH_X7_readBoth p d0) (hd : 6 ≤ d) (C : mm_C d yX7_readTruth cX7_readTruth 4 (some .boolean) (.inr (some (.int r))) hz V) : ∀ (n : Nat) (l0 : Option Nat) (l1 : Int32) (l2 : Int32) (l3 : Int32) (h : MH), F_X7_readTruth_8 p n l0 l1 l2 l3 h = some (r, hz) → V 8 [(0, va_rf l0), (1, .int l1), (2, .int l2), (3, .int l3)] [] h := by
  intro n
  induction n with
  | zero => intro l0 l1 l2 l3 h hK; cases hK
  | succ n ih =>
    intro l0 l1 l2 l3 h hK
    replace hK : (if (900 : Int32) ≤ l3 then (F_X7_readTruth_57 p l2 h) else (if l2 = 0 then (F_X7_readTruth_57 p l2 h) else ((gR h l0 7 0).bind fun v20 => mm_b2 (cV h v20 9 (F_X9_isWord v20 (some 18 : Option Nat) h)) fun v25 h25 => if v25 = 0 then (F_X7_readTruth_57 p l2 h25) else ((gR h25 l0 7 0).bind fun v32 => (cV h25 v32 9 (F_X9_advance v32 h25)).bind fun h35 => mm_b2 (cV h35 l0 7 (p.1 l0 l1 h35)) fun v40 h40 => (cV h40 l0 7 (F_X7_emit l0 (2007 : Int32) h40)).bind fun h48 => F_X7_readTruth_8 p n l0 l1 v40 (l3 + (1 : Int32)) h48)))) = some (r, hz) := hK
    refine mm_iload_n C (pc := 8) 3 dX7_readTruth_8 rfl ?_
    refine mm_sipush C (pc := 9) (v := (900 : Int32)) dX7_readTruth_9 (by decide) ?_
    refine mm_icmp_ge C (pc := 12) (tgt := 57) dX7_readTruth_12 (by decide) (fun hc => ?_) (fun hc => ?_)
    · replace hK := mm_ip hc hK
      refine mm_sub C [2] rfl ?_
      exact w_X7_readTruth_57 hd0 hp hd C _ _ hK
    · replace hK := mm_in hc hK
      refine mm_iload_n C (pc := 15) 2 dX7_readTruth_15 rfl ?_
      refine mm_if_eq C (pc := 16) (tgt := 57) dX7_readTruth_16 (by decide) (fun hc => ?_) (fun hc => ?_)
      · replace hK := mm_ip hc hK
        refine mm_sub C [2] rfl ?_
        exact w_X7_readTruth_57 hd0 hp hd C _ _ hK
      · replace hK := mm_in hc hK
        refine mm_aload_n C (pc := 19) 0 dX7_readTruth_19 rfl ?_
        replace hK := mm_bd hK; obtain ⟨v20, e20, hK⟩ := hK
        refine mm_getr C (pc := 20) (k := 0) inGX7 rfl (by decide) wd_351 dX7_readTruth_20 e20 ?_
        refine mm_ldcS C (pc := 23) (i := 18) (by decide) (by rfl) dX7_readTruth_23 ?_
        replace hK := mm_b2s hK; obtain ⟨v25, h25, e25, hK⟩ := hK
        obtain ⟨o25, e25⟩ := cV_some e25
        refine mm_callV C (pc := 25) (d1 := 5) (As := [va_rf (some 18 : Option Nat)]) (st := []) (vk := (some (.int v25))) ((S_X9_isWord (by omega)) e25) tT_X9_isWord o25 (Or.inr ⟨_, rfl, rfl⟩) wd_1252 wd_1253 wd_1254 (by omega) (by decide) rfl (by simp [mm_crf, mm_cti, mm_ctl]) rfl dX7_readTruth_25 ?_
        show V _ _ (.int v25 :: _) _
        refine mm_if_eq C (pc := 28) (tgt := 57) dX7_readTruth_28 (by decide) (fun hc => ?_) (fun hc => ?_)
        · replace hK := mm_ip hc hK
          refine mm_sub C [2] rfl ?_
          exact w_X7_readTruth_57 hd0 hp hd C _ _ hK
        · replace hK := mm_in hc hK
          refine mm_aload_n C (pc := 31) 0 dX7_readTruth_31 rfl ?_
          replace hK := mm_bd hK; obtain ⟨v32, e32, hK⟩ := hK
          refine mm_getr C (pc := 32) (k := 0) inGX7 rfl (by decide) wd_351 dX7_readTruth_32 e32 ?_
          replace hK := mm_bd hK; obtain ⟨h35, e35, hK⟩ := hK
          obtain ⟨o35, e35⟩ := cV_some e35
          refine mm_callV C (pc := 35) (d1 := 5) (As := []) (st := []) (vk := none) ((S_X9_advance (by omega)) e35) tT_X9_advance o35 (Or.inr ⟨_, rfl, rfl⟩) wd_1289 wd_1185 wd_1186 (by omega) (by decide) rfl (by simp [mm_crf, mm_cti, mm_ctl]) rfl dX7_readTruth_35 ?_
          show V _ _ [] _
          refine mm_aload_n C (pc := 38) 0 dX7_readTruth_38 rfl ?_
          refine mm_iload_n C (pc := 39) 1 dX7_readTruth_39 rfl ?_
          replace hK := mm_b2s hK; obtain ⟨v40, h40, e40, hK⟩ := hK
          obtain ⟨o40, e40⟩ := cV_some e40
          refine mm_callV C (pc := 40) (d1 := d0) (As := [.int l1]) (st := []) (vk := (some (.int v40))) ((hp.1 _ (by omega) ) e40) tT_X7_readBoth o40 (Or.inr ⟨_, rfl, rfl⟩) wd_1340 wd_1342 wd_27 (by omega) (by decide) rfl (by simp [mm_crf, mm_cti, mm_ctl]) rfl dX7_readTruth_40 ?_
          show V _ _ (.int v40 :: _) _
          refine mm_istore_n C (pc := 43) (i := 2) (lv' := [(2, .int v40), (0, va_rf l0), (1, .int l1), (3, .int l3)]) dX7_readTruth_43 rfl (by decide) rfl ?_
          refine mm_aload_n C (pc := 44) 1 dX7_readTruth_44 rfl ?_
          refine mm_sipush C (pc := 45) (v := (2007 : Int32)) dX7_readTruth_45 (by decide) ?_
          replace hK := mm_bd hK; obtain ⟨h48, e48, hK⟩ := hK
          obtain ⟨o48, e48⟩ := cV_some e48
          refine mm_callV C (pc := 48) (d1 := 1) (As := [.int (2007 : Int32)]) (st := []) (vk := none) ((S_X7_emit (by omega)) e48) tT_X7_emit o48 (Or.inr ⟨_, rfl, rfl⟩) wd_1353 wd_1355 wd_30 (by omega) (by decide) rfl (by simp [mm_crf, mm_cti, mm_ctl]) rfl dX7_readTruth_48 ?_
          show V _ _ [] _
          refine mm_iinc C (pc := 51) (v := (l3 + (1 : Int32))) (lv' := [(3, .int (l3 + (1 : Int32))), (2, .int v40), (0, va_rf l0), (1, .int l1)]) 3 dX7_readTruth_51 rfl rfl (by decide) rfl ?_
          refine mm_goto C (pc := 54) (tgt := 8) dX7_readTruth_54 (by decide) ?_
          refine mm_sub C [2, 3, 1, 0] rfl ?_
          exact ih _ _ _ _ _ hK
def F_X7_readTruth (p : PT_X7_readBoth) (a0 : Option Nat) (a1 : Int32) (h : MH) : Option (Int32 × MH) := mm_b2 (cV h a0 7 (p.1 a0 a1 h)) fun v2 h2 => F_X7_readTruth_8 p mm_N a0 a1 v2 (0 : Int32) h2
set_option maxRecDepth 20000 in
set_option maxHeartbeats 4000000 in
theorem S_X7_readTruth {d : Nat} {p : PT_X7_readBoth} {d0 : Nat} (hd0 : d0 + 1 ≤ d) (hp : PH_X7_readBoth p d0) (hd : 6 ≤ d) {a0 : Option Nat} {a1 : Int32} {h : MH} {r : Int32} {hz : MH} (hK : F_X7_readTruth p a0 a1 h = some (r, hz)) : mm_M yX7_readTruth cX7_readTruth 4 (some .boolean) d [va_rf a0, .int a1] h (.inr (some (.int r))) hz := by
  refine mm_ofV (by decide +kernel) (by simp [lg_sl, mm_crf, mm_cti, mm_ctl]) (fun V C => ?_)
  rw [show lv_args 0 [va_rf a0, .int a1] = [(0, va_rf a0), (1, .int a1)] by simp [lv_args, mm_crf, mm_cti, mm_ctl]]
  unfold F_X7_readTruth at hK
  refine mm_aload_n C (pc := 0) 0 dX7_readTruth_0 rfl ?_
  refine mm_iload_n C (pc := 1) 1 dX7_readTruth_1 rfl ?_
  replace hK := mm_b2s hK; obtain ⟨v2, h2, e2, hK⟩ := hK
  obtain ⟨o2, e2⟩ := cV_some e2
  refine mm_callV C (pc := 2) (d1 := d0) (As := [.int a1]) (st := []) (vk := (some (.int v2))) ((hp.1 _ (by omega) ) e2) tT_X7_readBoth o2 (Or.inr ⟨_, rfl, rfl⟩) wd_1340 wd_1342 wd_27 (by omega) (by decide) rfl (by simp [mm_crf, mm_cti, mm_ctl]) rfl dX7_readTruth_2 ?_
  show V _ _ (.int v2 :: _) _
  refine mm_istore_n C (pc := 5) (i := 2) (lv' := [(2, .int v2), (0, va_rf a0), (1, .int a1)]) dX7_readTruth_5 rfl (by decide) rfl ?_
  refine mm_iconst C (pc := 6) (v := (0 : Int32)) dX7_readTruth_6 (by decide) ?_
  refine mm_istore_n C (pc := 7) (i := 3) (lv' := [(3, .int (0 : Int32)), (2, .int v2), (0, va_rf a0), (1, .int a1)]) dX7_readTruth_7 rfl (by decide) rfl ?_
  refine mm_sub C [2, 3, 1, 0] rfl ?_
  exact w_X7_readTruth_8 hd0 hp hd C _ _ _ _ _ _ hK
def F_X7_readUnit_89 (p : PT_X7_readBoth) (s0 : Int32) (h : MH) : Option (Int32 × MH) := rZ s0 h
set_option maxRecDepth 20000 in
set_option maxHeartbeats 4000000 in
theorem w_X7_readUnit_89 {d : Nat} {V : Nat → List (Nat × Value) → List Value → MH → Prop} {r : Int32} {hz : MH} {p : PT_X7_readBoth} {d0 : Nat} (hd0 : d0 + 1 ≤ d) (hp : PH_X7_readBoth p d0) (hd : 72 ≤ d) (C : mm_C d yX7_readUnit cX7_readUnit 4 (some .boolean) (.inr (some (.int r))) hz V) (s0 : Int32) (h : MH) (hK : F_X7_readUnit_89 p s0 h = some (r, hz)) : V 89 [] [.int s0] h := by
  unfold F_X7_readUnit_89 at hK
  replace hK := rZ_some hK; obtain ⟨hv89, hK⟩ := hK
  cases hK
  exact mm_zret C (pc := 89) rfl (mm_nrZ hv89) dX7_readUnit_89 rfl rfl
def F_X7_readUnit_88 (p : PT_X7_readBoth) (h : MH) : Option (Int32 × MH) := F_X7_readUnit_89 p (0 : Int32) h
set_option maxRecDepth 20000 in
set_option maxHeartbeats 4000000 in
theorem w_X7_readUnit_88 {d : Nat} {V : Nat → List (Nat × Value) → List Value → MH → Prop} {r : Int32} {hz : MH} {p : PT_X7_readBoth} {d0 : Nat} (hd0 : d0 + 1 ≤ d) (hp : PH_X7_readBoth p d0) (hd : 72 ≤ d) (C : mm_C d yX7_readUnit cX7_readUnit 4 (some .boolean) (.inr (some (.int r))) hz V) (h : MH) (hK : F_X7_readUnit_88 p  h = some (r, hz)) : V 88 [] [] h := by
  unfold F_X7_readUnit_88 at hK
  refine mm_iconst C (pc := 88) (v := (0 : Int32)) dX7_readUnit_88 (by decide) ?_
  exact w_X7_readUnit_89 hd0 hp hd C _ _ hK
def F_X7_readUnit_35 (p : PT_X7_readBoth) (l0 : Option Nat) (s0 : Int32) (h : MH) : Option (Int32 × MH) := (cV h l0 7 (F_X7_emit l0 (2008 : Int32) h)).bind fun h40 => rZ s0 h40
set_option maxRecDepth 20000 in
set_option maxHeartbeats 4000000 in
theorem w_X7_readUnit_35 {d : Nat} {V : Nat → List (Nat × Value) → List Value → MH → Prop} {r : Int32} {hz : MH} {p : PT_X7_readBoth} {d0 : Nat} (hd0 : d0 + 1 ≤ d) (hp : PH_X7_readBoth p d0) (hd : 72 ≤ d) (C : mm_C d yX7_readUnit cX7_readUnit 4 (some .boolean) (.inr (some (.int r))) hz V) (l0 : Option Nat) (s0 : Int32) (h : MH) (hK : F_X7_readUnit_35 p l0 s0 h = some (r, hz)) : V 35 [(0, va_rf l0)] [.int s0] h := by
  unfold F_X7_readUnit_35 at hK
  refine mm_istore_n C (pc := 35) (i := 2) (lv' := [(2, .int s0), (0, va_rf l0)]) dX7_readUnit_35 rfl (by decide) rfl ?_
  refine mm_aload_n C (pc := 36) 1 dX7_readUnit_36 rfl ?_
  refine mm_sipush C (pc := 37) (v := (2008 : Int32)) dX7_readUnit_37 (by decide) ?_
  replace hK := mm_bd hK; obtain ⟨h40, e40, hK⟩ := hK
  obtain ⟨o40, e40⟩ := cV_some e40
  refine mm_callV C (pc := 40) (d1 := 1) (As := [.int (2008 : Int32)]) (st := []) (vk := none) ((S_X7_emit (by omega)) e40) tT_X7_emit o40 (Or.inr ⟨_, rfl, rfl⟩) wd_1353 wd_1355 wd_30 (by omega) (by decide) rfl (by simp [mm_crf, mm_cti, mm_ctl]) rfl dX7_readUnit_40 ?_
  show V _ _ [] _
  refine mm_iload_n C (pc := 43) 0 dX7_readUnit_43 rfl ?_
  replace hK := rZ_some hK; obtain ⟨hv44, hK⟩ := hK
  cases hK
  exact mm_zret C (pc := 44) rfl (mm_nrZ hv44) dX7_readUnit_44 rfl rfl
def F_X7_readUnit_34 (p : PT_X7_readBoth) (l0 : Option Nat) (h : MH) : Option (Int32 × MH) := F_X7_readUnit_35 p l0 (0 : Int32) h
set_option maxRecDepth 20000 in
set_option maxHeartbeats 4000000 in
theorem w_X7_readUnit_34 {d : Nat} {V : Nat → List (Nat × Value) → List Value → MH → Prop} {r : Int32} {hz : MH} {p : PT_X7_readBoth} {d0 : Nat} (hd0 : d0 + 1 ≤ d) (hp : PH_X7_readBoth p d0) (hd : 72 ≤ d) (C : mm_C d yX7_readUnit cX7_readUnit 4 (some .boolean) (.inr (some (.int r))) hz V) (l0 : Option Nat) (h : MH) (hK : F_X7_readUnit_34 p l0 h = some (r, hz)) : V 34 [(0, va_rf l0)] [] h := by
  unfold F_X7_readUnit_34 at hK
  refine mm_iconst C (pc := 34) (v := (0 : Int32)) dX7_readUnit_34 (by decide) ?_
  exact w_X7_readUnit_35 hd0 hp hd C _ _ _ hK
def F_X7_readUnit (p : PT_X7_readBoth) (a0 : Option Nat) (a1 : Int32) (h : MH) : Option (Int32 × MH) := (gR h a0 7 0).bind fun v1 => mm_b2 (cV h v1 9 (F_X9_isWord v1 (some 10 : Option Nat) h)) fun v6 h6 => if v6 = 0 then ((gR h6 a0 7 0).bind fun v46 => mm_b2 (cV h6 v46 9 (F_X9_isSign v46 (91 : Int32) h6)) fun v51 h51 => if v51 = 0 then (mm_b2 (cV h51 a0 7 ((G_X7_readAtom 64).2.1 a0 a1 h51)) fun v92 h92 => if v92 = 0 then (rZ (0 : Int32) h92) else (mm_b2 (cV h92 a0 7 (F_X7_relation a0 h92)) fun v101 h101 => if v101 = ((-1) : Int32) then (mm_b2 (cV h101 a0 7 (F_X7_refuse a0 (2 : Int32) h101)) fun v112 h112 => rZ v112 h112) else ((gR h101 a0 7 0).bind fun v117 => (cV h101 v117 9 (F_X9_advance v117 h101)).bind fun h120 => mm_b2 (cV h120 a0 7 ((G_X7_readAtom 64).2.1 a0 a1 h120)) fun v125 h125 => (cV h125 a0 7 (F_X7_emit a0 v101 h125)).bind fun h131 => rZ v125 h131))) else (mm_b2 (cV h51 a0 7 (F_X7_goDeeper a0 a1 h51)) fun v59 h59 => if v59 = 0 then (F_X7_readUnit_88 p h59) else (mm_b2 (cV h59 a0 7 (p.2.1 a0 (a1 + (1 : Int32)) h59)) fun v69 h69 => if v69 = 0 then (F_X7_readUnit_88 p h69) else (mm_b2 (cV h69 a0 7 (F_X7_takeSign a0 (93 : Int32) h69)) fun v78 h78 => if v78 = 0 then (F_X7_readUnit_88 p h78) else (F_X7_readUnit_89 p (1 : Int32) h78))))) else (mm_b2 (cV h6 a0 7 (F_X7_goDeeper a0 a1 h6)) fun v14 h14 => if v14 = 0 then (F_X7_readUnit_34 p a0 h14) else (mm_b2 (cV h14 a0 7 (p.2.2 a0 (a1 + (1 : Int32)) h14)) fun v24 h24 => if v24 = 0 then (F_X7_readUnit_34 p a0 h24) else (F_X7_readUnit_35 p a0 (1 : Int32) h24)))
set_option maxRecDepth 20000 in
set_option maxHeartbeats 4000000 in
theorem S_X7_readUnit {d : Nat} {p : PT_X7_readBoth} {d0 : Nat} (hd0 : d0 + 1 ≤ d) (hp : PH_X7_readBoth p d0) (hd : 72 ≤ d) {a0 : Option Nat} {a1 : Int32} {h : MH} {r : Int32} {hz : MH} (hK : F_X7_readUnit p a0 a1 h = some (r, hz)) : mm_M yX7_readUnit cX7_readUnit 4 (some .boolean) d [va_rf a0, .int a1] h (.inr (some (.int r))) hz := by
  refine mm_ofV (by decide +kernel) (by simp [lg_sl, mm_crf, mm_cti, mm_ctl]) (fun V C => ?_)
  rw [show lv_args 0 [va_rf a0, .int a1] = [(0, va_rf a0), (1, .int a1)] by simp [lv_args, mm_crf, mm_cti, mm_ctl]]
  unfold F_X7_readUnit at hK
  refine mm_aload_n C (pc := 0) 0 dX7_readUnit_0 rfl ?_
  replace hK := mm_bd hK; obtain ⟨v1, e1, hK⟩ := hK
  refine mm_getr C (pc := 1) (k := 0) inGX7 rfl (by decide) wd_351 dX7_readUnit_1 e1 ?_
  refine mm_ldcS C (pc := 4) (i := 10) (by decide) (by rfl) dX7_readUnit_4 ?_
  replace hK := mm_b2s hK; obtain ⟨v6, h6, e6, hK⟩ := hK
  obtain ⟨o6, e6⟩ := cV_some e6
  refine mm_callV C (pc := 6) (d1 := 5) (As := [va_rf (some 10 : Option Nat)]) (st := []) (vk := (some (.int v6))) ((S_X9_isWord (by omega)) e6) tT_X9_isWord o6 (Or.inr ⟨_, rfl, rfl⟩) wd_1252 wd_1253 wd_1254 (by omega) (by decide) rfl (by simp [mm_crf, mm_cti, mm_ctl]) rfl dX7_readUnit_6 ?_
  show V _ _ (.int v6 :: _) _
  refine mm_if_eq C (pc := 9) (tgt := 45) dX7_readUnit_9 (by decide) (fun hc => ?_) (fun hc => ?_)
  · replace hK := mm_ip hc hK
    refine mm_aload_n C (pc := 45) 0 dX7_readUnit_45 rfl ?_
    replace hK := mm_bd hK; obtain ⟨v46, e46, hK⟩ := hK
    refine mm_getr C (pc := 46) (k := 0) inGX7 rfl (by decide) wd_351 dX7_readUnit_46 e46 ?_
    refine mm_bipush C (pc := 49) (v := (91 : Int32)) dX7_readUnit_49 (by decide) ?_
    replace hK := mm_b2s hK; obtain ⟨v51, h51, e51, hK⟩ := hK
    obtain ⟨o51, e51⟩ := cV_some e51
    refine mm_callV C (pc := 51) (d1 := 1) (As := [.int (91 : Int32)]) (st := []) (vk := (some (.int v51))) ((S_X9_isSign (by omega)) e51) tT_X9_isSign o51 (Or.inr ⟨_, rfl, rfl⟩) wd_1310 wd_1311 wd_1312 (by omega) (by decide) rfl (by simp [mm_crf, mm_cti, mm_ctl]) rfl dX7_readUnit_51 ?_
    show V _ _ (.int v51 :: _) _
    refine mm_if_eq C (pc := 54) (tgt := 90) dX7_readUnit_54 (by decide) (fun hc => ?_) (fun hc => ?_)
    · replace hK := mm_ip hc hK
      refine mm_aload_n C (pc := 90) 0 dX7_readUnit_90 rfl ?_
      refine mm_iload_n C (pc := 91) 1 dX7_readUnit_91 rfl ?_
      replace hK := mm_b2s hK; obtain ⟨v92, h92, e92, hK⟩ := hK
      obtain ⟨o92, e92⟩ := cV_some e92
      refine mm_callV C (pc := 92) (d1 := 71) (As := [.int a1]) (st := []) (vk := (some (.int v92))) (((S_G_X7_readAtom 64).2.1 _ (by omega)) e92) tT_X7_readSum o92 (Or.inr ⟨_, rfl, rfl⟩) wd_1357 wd_1359 wd_31 (by omega) (by decide) rfl (by simp [mm_crf, mm_cti, mm_ctl]) rfl dX7_readUnit_92 ?_
      show V _ _ (.int v92 :: _) _
      refine mm_if_ne C (pc := 95) (tgt := 100) dX7_readUnit_95 (by decide) (fun hc => ?_) (fun hc => ?_)
      · replace hK := mm_in hc hK
        refine mm_aload_n C (pc := 100) 0 dX7_readUnit_100 rfl ?_
        replace hK := mm_b2s hK; obtain ⟨v101, h101, e101, hK⟩ := hK
        obtain ⟨o101, e101⟩ := cV_some e101
        refine mm_callV C (pc := 101) (d1 := 2) (As := []) (st := []) (vk := (some (.int v101))) ((S_X7_relation (by omega)) e101) tT_X7_relation o101 (Or.inr ⟨_, rfl, rfl⟩) wd_1383 wd_1385 wd_36 (by omega) (by decide) rfl (by simp [mm_crf, mm_cti, mm_ctl]) rfl dX7_readUnit_101 ?_
        show V _ _ (.int v101 :: _) _
        refine mm_istore_n C (pc := 104) (i := 2) (lv' := [(2, .int v101), (0, va_rf a0), (1, .int a1)]) dX7_readUnit_104 rfl (by decide) rfl ?_
        refine mm_iload_n C (pc := 105) 0 dX7_readUnit_105 rfl ?_
        refine mm_iconst C (pc := 106) (v := ((-1) : Int32)) dX7_readUnit_106 (by decide) ?_
        refine mm_icmp_ne C (pc := 107) (tgt := 116) dX7_readUnit_107 (by decide) (fun hc => ?_) (fun hc => ?_)
        · replace hK := mm_in hc hK
          refine mm_aload_n C (pc := 116) 1 dX7_readUnit_116 rfl ?_
          replace hK := mm_bd hK; obtain ⟨v117, e117, hK⟩ := hK
          refine mm_getr C (pc := 117) (k := 0) inGX7 rfl (by decide) wd_351 dX7_readUnit_117 e117 ?_
          replace hK := mm_bd hK; obtain ⟨h120, e120, hK⟩ := hK
          obtain ⟨o120, e120⟩ := cV_some e120
          refine mm_callV C (pc := 120) (d1 := 5) (As := []) (st := []) (vk := none) ((S_X9_advance (by omega)) e120) tT_X9_advance o120 (Or.inr ⟨_, rfl, rfl⟩) wd_1289 wd_1185 wd_1186 (by omega) (by decide) rfl (by simp [mm_crf, mm_cti, mm_ctl]) rfl dX7_readUnit_120 ?_
          show V _ _ [] _
          refine mm_aload_n C (pc := 123) 1 dX7_readUnit_123 rfl ?_
          refine mm_iload_n C (pc := 124) 2 dX7_readUnit_124 rfl ?_
          replace hK := mm_b2s hK; obtain ⟨v125, h125, e125, hK⟩ := hK
          obtain ⟨o125, e125⟩ := cV_some e125
          refine mm_callV C (pc := 125) (d1 := 71) (As := [.int a1]) (st := []) (vk := (some (.int v125))) (((S_G_X7_readAtom 64).2.1 _ (by omega)) e125) tT_X7_readSum o125 (Or.inr ⟨_, rfl, rfl⟩) wd_1357 wd_1359 wd_31 (by omega) (by decide) rfl (by simp [mm_crf, mm_cti, mm_ctl]) rfl dX7_readUnit_125 ?_
          show V _ _ (.int v125 :: _) _
          refine mm_istore_n C (pc := 128) (i := 3) (lv' := [(3, .int v125), (2, .int v101), (0, va_rf a0), (1, .int a1)]) dX7_readUnit_128 rfl (by decide) rfl ?_
          refine mm_aload_n C (pc := 129) 2 dX7_readUnit_129 rfl ?_
          refine mm_iload_n C (pc := 130) 1 dX7_readUnit_130 rfl ?_
          replace hK := mm_bd hK; obtain ⟨h131, e131, hK⟩ := hK
          obtain ⟨o131, e131⟩ := cV_some e131
          refine mm_callV C (pc := 131) (d1 := 1) (As := [.int v101]) (st := []) (vk := none) ((S_X7_emit (by omega)) e131) tT_X7_emit o131 (Or.inr ⟨_, rfl, rfl⟩) wd_1353 wd_1355 wd_30 (by omega) (by decide) rfl (by simp [mm_crf, mm_cti, mm_ctl]) rfl dX7_readUnit_131 ?_
          show V _ _ [] _
          refine mm_iload_n C (pc := 134) 0 dX7_readUnit_134 rfl ?_
          replace hK := rZ_some hK; obtain ⟨hv135, hK⟩ := hK
          cases hK
          exact mm_zret C (pc := 135) rfl (mm_nrZ hv135) dX7_readUnit_135 rfl rfl
        · replace hK := mm_ip hc hK
          refine mm_aload_n C (pc := 110) 1 dX7_readUnit_110 rfl ?_
          refine mm_iconst C (pc := 111) (v := (2 : Int32)) dX7_readUnit_111 (by decide) ?_
          replace hK := mm_b2s hK; obtain ⟨v112, h112, e112, hK⟩ := hK
          obtain ⟨o112, e112⟩ := cV_some e112
          refine mm_callV C (pc := 112) (d1 := 2) (As := [.int (2 : Int32)]) (st := []) (vk := (some (.int v112))) ((S_X7_refuse (by omega)) e112) tT_X7_refuse o112 (Or.inr ⟨_, rfl, rfl⟩) wd_1277 wd_1279 wd_19 (by omega) (by decide) rfl (by simp [mm_crf, mm_cti, mm_ctl]) rfl dX7_readUnit_112 ?_
          show V _ _ (.int v112 :: _) _
          replace hK := rZ_some hK; obtain ⟨hv115, hK⟩ := hK
          cases hK
          exact mm_zret C (pc := 115) rfl (mm_nrZ hv115) dX7_readUnit_115 rfl rfl
      · replace hK := mm_ip hc hK
        refine mm_iconst C (pc := 98) (v := (0 : Int32)) dX7_readUnit_98 (by decide) ?_
        replace hK := rZ_some hK; obtain ⟨hv99, hK⟩ := hK
        cases hK
        exact mm_zret C (pc := 99) rfl (mm_nrZ hv99) dX7_readUnit_99 rfl rfl
    · replace hK := mm_in hc hK
      refine mm_aload_n C (pc := 57) 0 dX7_readUnit_57 rfl ?_
      refine mm_iload_n C (pc := 58) 1 dX7_readUnit_58 rfl ?_
      replace hK := mm_b2s hK; obtain ⟨v59, h59, e59, hK⟩ := hK
      obtain ⟨o59, e59⟩ := cV_some e59
      refine mm_callV C (pc := 59) (d1 := 6) (As := [.int a1]) (st := []) (vk := (some (.int v59))) ((S_X7_goDeeper (by omega)) e59) tT_X7_goDeeper o59 (Or.inr ⟨_, rfl, rfl⟩) wd_1349 wd_1351 wd_29 (by omega) (by decide) rfl (by simp [mm_crf, mm_cti, mm_ctl]) rfl dX7_readUnit_59 ?_
      show V _ _ (.int v59 :: _) _
      refine mm_if_eq C (pc := 62) (tgt := 88) dX7_readUnit_62 (by decide) (fun hc => ?_) (fun hc => ?_)
      · replace hK := mm_ip hc hK
        refine mm_sub C [] rfl ?_
        exact w_X7_readUnit_88 hd0 hp hd C _ hK
      · replace hK := mm_in hc hK
        refine mm_aload_n C (pc := 65) 0 dX7_readUnit_65 rfl ?_
        refine mm_iload_n C (pc := 66) 1 dX7_readUnit_66 rfl ?_
        refine mm_iconst C (pc := 67) (v := (1 : Int32)) dX7_readUnit_67 (by decide) ?_
        refine mm_iadd C (pc := 68) dX7_readUnit_68 ?_
        replace hK := mm_b2s hK; obtain ⟨v69, h69, e69, hK⟩ := hK
        obtain ⟨o69, e69⟩ := cV_some e69
        refine mm_callV C (pc := 69) (d1 := d0) (As := [.int (a1 + (1 : Int32))]) (st := []) (vk := (some (.int v69))) ((hp.2.1 _ (by omega) ) e69) tT_X7_readTruth o69 (Or.inr ⟨_, rfl, rfl⟩) wd_1336 wd_1338 wd_26 (by omega) (by decide) rfl (by simp [mm_crf, mm_cti, mm_ctl]) rfl dX7_readUnit_69 ?_
        show V _ _ (.int v69 :: _) _
        refine mm_if_eq C (pc := 72) (tgt := 88) dX7_readUnit_72 (by decide) (fun hc => ?_) (fun hc => ?_)
        · replace hK := mm_ip hc hK
          refine mm_sub C [] rfl ?_
          exact w_X7_readUnit_88 hd0 hp hd C _ hK
        · replace hK := mm_in hc hK
          refine mm_aload_n C (pc := 75) 0 dX7_readUnit_75 rfl ?_
          refine mm_bipush C (pc := 76) (v := (93 : Int32)) dX7_readUnit_76 (by decide) ?_
          replace hK := mm_b2s hK; obtain ⟨v78, h78, e78, hK⟩ := hK
          obtain ⟨o78, e78⟩ := cV_some e78
          refine mm_callV C (pc := 78) (d1 := 6) (As := [.int (93 : Int32)]) (st := []) (vk := (some (.int v78))) ((S_X7_takeSign (by omega)) e78) tT_X7_takeSign o78 (Or.inr ⟨_, rfl, rfl⟩) wd_1306 wd_1308 wd_22 (by omega) (by decide) rfl (by simp [mm_crf, mm_cti, mm_ctl]) rfl dX7_readUnit_78 ?_
          show V _ _ (.int v78 :: _) _
          refine mm_if_eq C (pc := 81) (tgt := 88) dX7_readUnit_81 (by decide) (fun hc => ?_) (fun hc => ?_)
          · replace hK := mm_ip hc hK
            refine mm_sub C [] rfl ?_
            exact w_X7_readUnit_88 hd0 hp hd C _ hK
          · replace hK := mm_in hc hK
            refine mm_iconst C (pc := 84) (v := (1 : Int32)) dX7_readUnit_84 (by decide) ?_
            refine mm_goto C (pc := 85) (tgt := 89) dX7_readUnit_85 (by decide) ?_
            refine mm_sub C [] rfl ?_
            exact w_X7_readUnit_89 hd0 hp hd C _ _ hK
  · replace hK := mm_in hc hK
    refine mm_aload_n C (pc := 12) 0 dX7_readUnit_12 rfl ?_
    refine mm_iload_n C (pc := 13) 1 dX7_readUnit_13 rfl ?_
    replace hK := mm_b2s hK; obtain ⟨v14, h14, e14, hK⟩ := hK
    obtain ⟨o14, e14⟩ := cV_some e14
    refine mm_callV C (pc := 14) (d1 := 6) (As := [.int a1]) (st := []) (vk := (some (.int v14))) ((S_X7_goDeeper (by omega)) e14) tT_X7_goDeeper o14 (Or.inr ⟨_, rfl, rfl⟩) wd_1349 wd_1351 wd_29 (by omega) (by decide) rfl (by simp [mm_crf, mm_cti, mm_ctl]) rfl dX7_readUnit_14 ?_
    show V _ _ (.int v14 :: _) _
    refine mm_if_eq C (pc := 17) (tgt := 34) dX7_readUnit_17 (by decide) (fun hc => ?_) (fun hc => ?_)
    · replace hK := mm_ip hc hK
      refine mm_sub C [0] rfl ?_
      exact w_X7_readUnit_34 hd0 hp hd C _ _ hK
    · replace hK := mm_in hc hK
      refine mm_aload_n C (pc := 20) 0 dX7_readUnit_20 rfl ?_
      refine mm_iload_n C (pc := 21) 1 dX7_readUnit_21 rfl ?_
      refine mm_iconst C (pc := 22) (v := (1 : Int32)) dX7_readUnit_22 (by decide) ?_
      refine mm_iadd C (pc := 23) dX7_readUnit_23 ?_
      replace hK := mm_b2s hK; obtain ⟨v24, h24, e24, hK⟩ := hK
      obtain ⟨o24, e24⟩ := cV_some e24
      refine mm_callV C (pc := 24) (d1 := d0) (As := [.int (a1 + (1 : Int32))]) (st := []) (vk := (some (.int v24))) ((hp.2.2 _ (by omega) ) e24) tT_X7_readUnit o24 (Or.inr ⟨_, rfl, rfl⟩) wd_1344 wd_1346 wd_28 (by omega) (by decide) rfl (by simp [mm_crf, mm_cti, mm_ctl]) rfl dX7_readUnit_24 ?_
      show V _ _ (.int v24 :: _) _
      refine mm_if_eq C (pc := 27) (tgt := 34) dX7_readUnit_27 (by decide) (fun hc => ?_) (fun hc => ?_)
      · replace hK := mm_ip hc hK
        refine mm_sub C [0] rfl ?_
        exact w_X7_readUnit_34 hd0 hp hd C _ _ hK
      · replace hK := mm_in hc hK
        refine mm_iconst C (pc := 30) (v := (1 : Int32)) dX7_readUnit_30 (by decide) ?_
        refine mm_goto C (pc := 31) (tgt := 35) dX7_readUnit_31 (by decide) ?_
        refine mm_sub C [0] rfl ?_
        exact w_X7_readUnit_35 hd0 hp hd C _ _ _ hK
def G_X7_readBoth : Nat → PT_X7_readBoth
  | 0 => ((fun _ _ _ => none), (fun _ _ _ => none), (fun _ _ _ => none))
  | n + 1 => ((fun a0 a1 h => F_X7_readBoth (G_X7_readBoth n) a0 a1 h), (fun a0 a1 h => F_X7_readTruth (G_X7_readBoth n) a0 a1 h), (fun a0 a1 h => F_X7_readUnit (G_X7_readBoth n) a0 a1 h))
theorem S_G_X7_readBoth : ∀ n : Nat, PH_X7_readBoth (G_X7_readBoth n) (72 + n) := by
  intro n
  induction n with
  | zero => exact ⟨fun d hd _ _ _ _ _ hK => (by cases hK), fun d hd _ _ _ _ _ hK => (by cases hK), fun d hd _ _ _ _ _ hK => (by cases hK)⟩
  | succ n ih => exact ⟨fun d hd _ _ _ _ _ hK => S_X7_readBoth (p := G_X7_readBoth n) (d0 := 72 + n) (by omega) ih (by omega) hK, fun d hd _ _ _ _ _ hK => S_X7_readTruth (p := G_X7_readBoth n) (d0 := 72 + n) (by omega) ih (by omega) hK, fun d hd _ _ _ _ _ hK => S_X7_readUnit (p := G_X7_readBoth n) (d0 := 72 + n) (by omega) ih (by omega) hK⟩
def F_X7_readLaw_9 (h : MH) : Option (Int32 × MH) := rZ (0 : Int32) h
set_option maxRecDepth 20000 in
set_option maxHeartbeats 4000000 in
theorem w_X7_readLaw_9 {d : Nat} {V : Nat → List (Nat × Value) → List Value → MH → Prop} {r : Int32} {hz : MH} (hd : 137 ≤ d) (C : mm_C d yX7_readLaw cX7_readLaw 4 (some .boolean) (.inr (some (.int r))) hz V) (h : MH) (hK : F_X7_readLaw_9  h = some (r, hz)) : V 9 [] [] h := by
  unfold F_X7_readLaw_9 at hK
  refine mm_iconst C (pc := 9) (v := (0 : Int32)) dX7_readLaw_9 (by decide) ?_
  replace hK := rZ_some hK; obtain ⟨hv10, hK⟩ := hK
  cases hK
  exact mm_zret C (pc := 10) rfl (mm_nrZ hv10) dX7_readLaw_10 rfl rfl
def F_X7_readLaw_57 (l0 : Option Nat) (l1 : Int32) (l2 : Int32) (s0 : Int32) (h : MH) : Option (Int32 × MH) := (gR h l0 7 4).bind fun v59 => (sI h v59 0 l1 l2).bind fun h64 => (gR h64 l0 7 5).bind fun v66 => (gI h64 l0 7 11).bind fun v71 => (sI h64 v66 0 l1 v71).bind fun h74 => rZ s0 h74
set_option maxRecDepth 20000 in
set_option maxHeartbeats 4000000 in
theorem w_X7_readLaw_57 {d : Nat} {V : Nat → List (Nat × Value) → List Value → MH → Prop} {r : Int32} {hz : MH} (hd : 137 ≤ d) (C : mm_C d yX7_readLaw cX7_readLaw 4 (some .boolean) (.inr (some (.int r))) hz V) (l0 : Option Nat) (l1 : Int32) (l2 : Int32) (s0 : Int32) (h : MH) (hK : F_X7_readLaw_57 l0 l1 l2 s0 h = some (r, hz)) : V 57 [(0, va_rf l0), (1, .int l1), (2, .int l2)] [.int s0] h := by
  unfold F_X7_readLaw_57 at hK
  refine mm_istore_n C (pc := 57) (i := 3) (lv' := [(3, .int s0), (0, va_rf l0), (1, .int l1), (2, .int l2)]) dX7_readLaw_57 rfl (by decide) rfl ?_
  refine mm_aload_n C (pc := 58) 1 dX7_readLaw_58 rfl ?_
  replace hK := mm_bd hK; obtain ⟨v59, e59, hK⟩ := hK
  refine mm_getr C (pc := 59) (k := 4) inGX7 rfl (by decide) wd_355 dX7_readLaw_59 e59 ?_
  refine mm_iload_n C (pc := 62) 2 dX7_readLaw_62 rfl ?_
  refine mm_iload_n C (pc := 63) 3 dX7_readLaw_63 rfl ?_
  replace hK := mm_bd hK; obtain ⟨h64, e64, hK⟩ := hK
  refine mm_iast C (pc := 64) dX7_readLaw_64 e64 ?_
  refine mm_aload_n C (pc := 65) 1 dX7_readLaw_65 rfl ?_
  replace hK := mm_bd hK; obtain ⟨v66, e66, hK⟩ := hK
  refine mm_getr C (pc := 66) (k := 5) inGX7 rfl (by decide) wd_356 dX7_readLaw_66 e66 ?_
  refine mm_iload_n C (pc := 69) 2 dX7_readLaw_69 rfl ?_
  refine mm_aload_n C (pc := 70) 1 dX7_readLaw_70 rfl ?_
  replace hK := mm_bd hK; obtain ⟨v71, e71, hK⟩ := hK
  refine mm_geti C (pc := 71) (k := 11) inGX7 rfl (by decide) wd_362 dX7_readLaw_71 e71 ?_
  replace hK := mm_bd hK; obtain ⟨h74, e74, hK⟩ := hK
  refine mm_iast C (pc := 74) dX7_readLaw_74 e74 ?_
  refine mm_iload_n C (pc := 75) 0 dX7_readLaw_75 rfl ?_
  replace hK := rZ_some hK; obtain ⟨hv76, hK⟩ := hK
  cases hK
  exact mm_zret C (pc := 76) rfl (mm_nrZ hv76) dX7_readLaw_76 rfl rfl
def F_X7_readLaw (a0 : Option Nat) (a1 : Int32) (h : MH) : Option (Int32 × MH) := if a1 < 0 then (F_X7_readLaw_9 h) else (if a1 < (3 : Int32) then ((gR h a0 7 0).bind fun v12 => (cV h v12 9 (F_X9_advance v12 h)).bind fun h15 => mm_b2 (cV h15 a0 7 (F_X7_takeSign a0 (58 : Int32) h15)) fun v21 h21 => if v21 = 0 then (rZ (0 : Int32) h21) else ((pI h21 a0 7 12 a1).bind fun h31 => (gI h31 a0 7 11).bind fun v35 => if a1 = (2 : Int32) then (mm_b2 (cV h31 a0 7 ((G_X7_readBoth 64).2.1 a0 (0 : Int32) h31)) fun v46 h46 => F_X7_readLaw_57 a0 a1 v35 v46 h46) else (mm_b2 (cV h31 a0 7 ((G_X7_readAtom 64).2.1 a0 (0 : Int32) h31)) fun v54 h54 => F_X7_readLaw_57 a0 a1 v35 v54 h54))) else (F_X7_readLaw_9 h))
set_option maxRecDepth 20000 in
set_option maxHeartbeats 4000000 in
theorem S_X7_readLaw {d : Nat} (hd : 137 ≤ d) {a0 : Option Nat} {a1 : Int32} {h : MH} {r : Int32} {hz : MH} (hK : F_X7_readLaw a0 a1 h = some (r, hz)) : mm_M yX7_readLaw cX7_readLaw 4 (some .boolean) d [va_rf a0, .int a1] h (.inr (some (.int r))) hz := by
  refine mm_ofV (by decide +kernel) (by simp [lg_sl, mm_crf, mm_cti, mm_ctl]) (fun V C => ?_)
  rw [show lv_args 0 [va_rf a0, .int a1] = [(0, va_rf a0), (1, .int a1)] by simp [lv_args, mm_crf, mm_cti, mm_ctl]]
  unfold F_X7_readLaw at hK
  refine mm_iload_n C (pc := 0) 1 dX7_readLaw_0 rfl ?_
  refine mm_if_lt C (pc := 1) (tgt := 9) dX7_readLaw_1 (by decide) (fun hc => ?_) (fun hc => ?_)
  · replace hK := mm_ip hc hK
    refine mm_sub C [] rfl ?_
    exact w_X7_readLaw_9 hd C _ hK
  · replace hK := mm_in hc hK
    refine mm_iload_n C (pc := 4) 1 dX7_readLaw_4 rfl ?_
    refine mm_iconst C (pc := 5) (v := (3 : Int32)) dX7_readLaw_5 (by decide) ?_
    refine mm_icmp_lt C (pc := 6) (tgt := 11) dX7_readLaw_6 (by decide) (fun hc => ?_) (fun hc => ?_)
    · replace hK := mm_ip hc hK
      refine mm_aload_n C (pc := 11) 0 dX7_readLaw_11 rfl ?_
      replace hK := mm_bd hK; obtain ⟨v12, e12, hK⟩ := hK
      refine mm_getr C (pc := 12) (k := 0) inGX7 rfl (by decide) wd_351 dX7_readLaw_12 e12 ?_
      replace hK := mm_bd hK; obtain ⟨h15, e15, hK⟩ := hK
      obtain ⟨o15, e15⟩ := cV_some e15
      refine mm_callV C (pc := 15) (d1 := 5) (As := []) (st := []) (vk := none) ((S_X9_advance (by omega)) e15) tT_X9_advance o15 (Or.inr ⟨_, rfl, rfl⟩) wd_1289 wd_1185 wd_1186 (by omega) (by decide) rfl (by simp [mm_crf, mm_cti, mm_ctl]) rfl dX7_readLaw_15 ?_
      show V _ _ [] _
      refine mm_aload_n C (pc := 18) 0 dX7_readLaw_18 rfl ?_
      refine mm_bipush C (pc := 19) (v := (58 : Int32)) dX7_readLaw_19 (by decide) ?_
      replace hK := mm_b2s hK; obtain ⟨v21, h21, e21, hK⟩ := hK
      obtain ⟨o21, e21⟩ := cV_some e21
      refine mm_callV C (pc := 21) (d1 := 6) (As := [.int (58 : Int32)]) (st := []) (vk := (some (.int v21))) ((S_X7_takeSign (by omega)) e21) tT_X7_takeSign o21 (Or.inr ⟨_, rfl, rfl⟩) wd_1306 wd_1308 wd_22 (by omega) (by decide) rfl (by simp [mm_crf, mm_cti, mm_ctl]) rfl dX7_readLaw_21 ?_
      show V _ _ (.int v21 :: _) _
      refine mm_if_ne C (pc := 24) (tgt := 29) dX7_readLaw_24 (by decide) (fun hc => ?_) (fun hc => ?_)
      · replace hK := mm_in hc hK
        refine mm_aload_n C (pc := 29) 0 dX7_readLaw_29 rfl ?_
        refine mm_iload_n C (pc := 30) 1 dX7_readLaw_30 rfl ?_
        replace hK := mm_bd hK; obtain ⟨h31, e31, hK⟩ := hK
        refine mm_puti C (pc := 31) (k := 12) false (fun z => by cases z) inGX7 tyX7 tyX7_ok nmX7 rfl (by decide) wd_363 rfl rfl dX7_readLaw_31 e31 ?_
        refine mm_aload_n C (pc := 34) 0 dX7_readLaw_34 rfl ?_
        replace hK := mm_bd hK; obtain ⟨v35, e35, hK⟩ := hK
        refine mm_geti C (pc := 35) (k := 11) inGX7 rfl (by decide) wd_362 dX7_readLaw_35 e35 ?_
        refine mm_istore_n C (pc := 38) (i := 2) (lv' := [(2, .int v35), (0, va_rf a0), (1, .int a1)]) dX7_readLaw_38 rfl (by decide) rfl ?_
        refine mm_iload_n C (pc := 39) 2 dX7_readLaw_39 rfl ?_
        refine mm_iconst C (pc := 40) (v := (2 : Int32)) dX7_readLaw_40 (by decide) ?_
        refine mm_icmp_ne C (pc := 41) (tgt := 52) dX7_readLaw_41 (by decide) (fun hc => ?_) (fun hc => ?_)
        · replace hK := mm_in hc hK
          refine mm_aload_n C (pc := 52) 1 dX7_readLaw_52 rfl ?_
          refine mm_iconst C (pc := 53) (v := (0 : Int32)) dX7_readLaw_53 (by decide) ?_
          replace hK := mm_b2s hK; obtain ⟨v54, h54, e54, hK⟩ := hK
          obtain ⟨o54, e54⟩ := cV_some e54
          refine mm_callV C (pc := 54) (d1 := 71) (As := [.int (0 : Int32)]) (st := []) (vk := (some (.int v54))) (((S_G_X7_readAtom 64).2.1 _ (by omega)) e54) tT_X7_readSum o54 (Or.inr ⟨_, rfl, rfl⟩) wd_1357 wd_1359 wd_31 (by omega) (by decide) rfl (by simp [mm_crf, mm_cti, mm_ctl]) rfl dX7_readLaw_54 ?_
          show V _ _ (.int v54 :: _) _
          refine mm_sub C [1, 2, 0] rfl ?_
          exact w_X7_readLaw_57 hd C _ _ _ _ _ hK
        · replace hK := mm_ip hc hK
          refine mm_aload_n C (pc := 44) 1 dX7_readLaw_44 rfl ?_
          refine mm_iconst C (pc := 45) (v := (0 : Int32)) dX7_readLaw_45 (by decide) ?_
          replace hK := mm_b2s hK; obtain ⟨v46, h46, e46, hK⟩ := hK
          obtain ⟨o46, e46⟩ := cV_some e46
          refine mm_callV C (pc := 46) (d1 := 136) (As := [.int (0 : Int32)]) (st := []) (vk := (some (.int v46))) (((S_G_X7_readBoth 64).2.1 _ (by omega)) e46) tT_X7_readTruth o46 (Or.inr ⟨_, rfl, rfl⟩) wd_1336 wd_1338 wd_26 (by omega) (by decide) rfl (by simp [mm_crf, mm_cti, mm_ctl]) rfl dX7_readLaw_46 ?_
          show V _ _ (.int v46 :: _) _
          refine mm_goto C (pc := 49) (tgt := 57) dX7_readLaw_49 (by decide) ?_
          refine mm_sub C [1, 2, 0] rfl ?_
          exact w_X7_readLaw_57 hd C _ _ _ _ _ hK
      · replace hK := mm_ip hc hK
        refine mm_iconst C (pc := 27) (v := (0 : Int32)) dX7_readLaw_27 (by decide) ?_
        replace hK := rZ_some hK; obtain ⟨hv28, hK⟩ := hK
        cases hK
        exact mm_zret C (pc := 28) rfl (mm_nrZ hv28) dX7_readLaw_28 rfl rfl
    · replace hK := mm_in hc hK
      refine mm_sub C [] rfl ?_
      exact w_X7_readLaw_9 hd C _ hK
def F_X7_readMinute (a0 : Option Nat) (h : MH) : Option (Int32 × MH) := (gR h a0 7 0).bind fun v1 => (cV h v1 9 (F_X9_advance v1 h)).bind fun h4 => mm_b2 (cV h4 a0 7 (F_X7_takeNumber a0 (0 : Int32) (999 : Int32) ((-1) : Int32) h4)) fun v13 h13 => if v13 = ((-1) : Int32) then (rZ (0 : Int32) h13) else ((pI h13 a0 7 9 v13).bind fun h26 => rZ (1 : Int32) h26)
set_option maxRecDepth 20000 in
set_option maxHeartbeats 4000000 in
theorem S_X7_readMinute {d : Nat} (hd : 7 ≤ d) {a0 : Option Nat} {h : MH} {r : Int32} {hz : MH} (hK : F_X7_readMinute a0 h = some (r, hz)) : mm_M yX7_readMinute cX7_readMinute 2 (some .boolean) d [va_rf a0] h (.inr (some (.int r))) hz := by
  refine mm_ofV (by decide +kernel) (by simp [lg_sl, mm_crf, mm_cti, mm_ctl]) (fun V C => ?_)
  rw [show lv_args 0 [va_rf a0] = [(0, va_rf a0)] by simp [lv_args, mm_crf, mm_cti, mm_ctl]]
  unfold F_X7_readMinute at hK
  refine mm_aload_n C (pc := 0) 0 dX7_readMinute_0 rfl ?_
  replace hK := mm_bd hK; obtain ⟨v1, e1, hK⟩ := hK
  refine mm_getr C (pc := 1) (k := 0) inGX7 rfl (by decide) wd_351 dX7_readMinute_1 e1 ?_
  replace hK := mm_bd hK; obtain ⟨h4, e4, hK⟩ := hK
  obtain ⟨o4, e4⟩ := cV_some e4
  refine mm_callV C (pc := 4) (d1 := 5) (As := []) (st := []) (vk := none) ((S_X9_advance (by omega)) e4) tT_X9_advance o4 (Or.inr ⟨_, rfl, rfl⟩) wd_1289 wd_1185 wd_1186 (by omega) (by decide) rfl (by simp [mm_crf, mm_cti, mm_ctl]) rfl dX7_readMinute_4 ?_
  show V _ _ [] _
  refine mm_aload_n C (pc := 7) 0 dX7_readMinute_7 rfl ?_
  refine mm_iconst C (pc := 8) (v := (0 : Int32)) dX7_readMinute_8 (by decide) ?_
  refine mm_sipush C (pc := 9) (v := (999 : Int32)) dX7_readMinute_9 (by decide) ?_
  refine mm_iconst C (pc := 12) (v := ((-1) : Int32)) dX7_readMinute_12 (by decide) ?_
  replace hK := mm_b2s hK; obtain ⟨v13, h13, e13, hK⟩ := hK
  obtain ⟨o13, e13⟩ := cV_some e13
  refine mm_callV C (pc := 13) (d1 := 6) (As := [.int (0 : Int32), .int (999 : Int32), .int ((-1) : Int32)]) (st := []) (vk := (some (.int v13))) ((S_X7_takeNumber (by omega)) e13) tT_X7_takeNumber o13 (Or.inr ⟨_, rfl, rfl⟩) wd_1290 wd_1292 wd_20 (by omega) (by decide) rfl (by simp [mm_crf, mm_cti, mm_ctl]) rfl dX7_readMinute_13 ?_
  show V _ _ (.int v13 :: _) _
  refine mm_istore_n C (pc := 16) (i := 1) (lv' := [(1, .int v13), (0, va_rf a0)]) dX7_readMinute_16 rfl (by decide) (by simp [mm_crf]) ?_
  refine mm_iload_n C (pc := 17) 0 dX7_readMinute_17 rfl ?_
  refine mm_iconst C (pc := 18) (v := ((-1) : Int32)) dX7_readMinute_18 (by decide) ?_
  refine mm_icmp_ne C (pc := 19) (tgt := 24) dX7_readMinute_19 (by decide) (fun hc => ?_) (fun hc => ?_)
  · replace hK := mm_in hc hK
    refine mm_aload_n C (pc := 24) 1 dX7_readMinute_24 rfl ?_
    refine mm_iload_n C (pc := 25) 0 dX7_readMinute_25 rfl ?_
    replace hK := mm_bd hK; obtain ⟨h26, e26, hK⟩ := hK
    refine mm_puti C (pc := 26) (k := 9) false (fun z => by cases z) inGX7 tyX7 tyX7_ok nmX7 rfl (by decide) wd_360 rfl rfl dX7_readMinute_26 e26 ?_
    refine mm_iconst C (pc := 29) (v := (1 : Int32)) dX7_readMinute_29 (by decide) ?_
    replace hK := rZ_some hK; obtain ⟨hv30, hK⟩ := hK
    cases hK
    exact mm_zret C (pc := 30) rfl (mm_nrZ hv30) dX7_readMinute_30 rfl rfl
  · replace hK := mm_ip hc hK
    refine mm_iconst C (pc := 22) (v := (0 : Int32)) dX7_readMinute_22 (by decide) ?_
    replace hK := rZ_some hK; obtain ⟨hv23, hK⟩ := hK
    cases hK
    exact mm_zret C (pc := 23) rfl (mm_nrZ hv23) dX7_readMinute_23 rfl rfl
theorem wd_1176 : Cond.code yX7_clear cX7_clear 1 none ∈ lw_good := mm_wd 1176 (by decide +kernel) (by decide +kernel)
theorem tT_X7_clear : mm_T yX7_clear cX7_clear 1 none 0 := ⟨wd_1176, wd_148, by decide +kernel, by decide +kernel, by decide +kernel, by decide +kernel⟩
theorem wd_1173 : Cond.methodLink RX7 70 yX7_clear ∈ lw_good := mm_wd 1173 (by decide +kernel) (by decide +kernel)
theorem wd_1175 : Cond.instanceMethod yX7_clear ∈ lw_good := mm_wd 1175 (by decide +kernel) (by decide +kernel)
theorem wd_15 : Cond.selects RX7 yX7_clear yX7_clear ∈ lw_good := mm_wd 15 (by decide +kernel) (by decide +kernel)
theorem wd_1181 : Cond.code yX9_open cX9_open 2 none ∈ lw_good := mm_wd 1181 (by decide +kernel) (by decide +kernel)
theorem tT_X9_open : mm_T yX9_open cX9_open 2 none 1 := ⟨wd_1181, wd_149, by decide +kernel, by decide +kernel, by decide +kernel, by decide +kernel⟩
theorem wd_1178 : Cond.methodLink RX7 73 yX9_open ∈ lw_good := mm_wd 1178 (by decide +kernel) (by decide +kernel)
theorem wd_1179 : Cond.instanceMethod yX9_open ∈ lw_good := mm_wd 1179 (by decide +kernel) (by decide +kernel)
theorem wd_1180 : Cond.selects RX9 yX9_open yX9_open ∈ lw_good := mm_wd 1180 (by decide +kernel) (by decide +kernel)
theorem wd_1246 : Cond.code yX7_readHead cX7_readHead 2 (some .boolean) ∈ lw_good := mm_wd 1246 (by decide +kernel) (by decide +kernel)
theorem tT_X7_readHead : mm_T yX7_readHead cX7_readHead 2 (some .boolean) 0 := ⟨wd_1246, wd_148, by decide +kernel, by decide +kernel, by decide +kernel, by decide +kernel⟩
theorem wd_1243 : Cond.methodLink RX7 79 yX7_readHead ∈ lw_good := mm_wd 1243 (by decide +kernel) (by decide +kernel)
theorem wd_1245 : Cond.instanceMethod yX7_readHead ∈ lw_good := mm_wd 1245 (by decide +kernel) (by decide +kernel)
theorem wd_17 : Cond.selects RX7 yX7_readHead yX7_readHead ∈ lw_good := mm_wd 17 (by decide +kernel) (by decide +kernel)
theorem wd_1317 : Cond.code yX9_isEnd cX9_isEnd 1 (some .boolean) ∈ lw_good := mm_wd 1317 (by decide +kernel) (by decide +kernel)
theorem tT_X9_isEnd : mm_T yX9_isEnd cX9_isEnd 1 (some .boolean) 0 := ⟨wd_1317, wd_149, by decide +kernel, by decide +kernel, by decide +kernel, by decide +kernel⟩
theorem wd_1314 : Cond.methodLink RX7 86 yX9_isEnd ∈ lw_good := mm_wd 1314 (by decide +kernel) (by decide +kernel)
theorem wd_1315 : Cond.instanceMethod yX9_isEnd ∈ lw_good := mm_wd 1315 (by decide +kernel) (by decide +kernel)
theorem wd_1316 : Cond.selects RX9 yX9_isEnd yX9_isEnd ∈ lw_good := mm_wd 1316 (by decide +kernel) (by decide +kernel)
theorem wd_1305 : Cond.code yX7_endLine cX7_endLine 1 (some .boolean) ∈ lw_good := mm_wd 1305 (by decide +kernel) (by decide +kernel)
theorem tT_X7_endLine : mm_T yX7_endLine cX7_endLine 1 (some .boolean) 0 := ⟨wd_1305, wd_148, by decide +kernel, by decide +kernel, by decide +kernel, by decide +kernel⟩
theorem wd_1302 : Cond.methodLink RX7 83 yX7_endLine ∈ lw_good := mm_wd 1302 (by decide +kernel) (by decide +kernel)
theorem wd_1304 : Cond.instanceMethod yX7_endLine ∈ lw_good := mm_wd 1304 (by decide +kernel) (by decide +kernel)
theorem wd_21 : Cond.selects RX7 yX7_endLine yX7_endLine ∈ lw_good := mm_wd 21 (by decide +kernel) (by decide +kernel)
theorem wd_1393 : Cond.code yX7_readMinute cX7_readMinute 2 (some .boolean) ∈ lw_good := mm_wd 1393 (by decide +kernel) (by decide +kernel)
theorem tT_X7_readMinute : mm_T yX7_readMinute cX7_readMinute 2 (some .boolean) 0 := ⟨wd_1393, wd_148, by decide +kernel, by decide +kernel, by decide +kernel, by decide +kernel⟩
theorem wd_1390 : Cond.methodLink RX7 114 yX7_readMinute ∈ lw_good := mm_wd 1390 (by decide +kernel) (by decide +kernel)
theorem wd_1392 : Cond.instanceMethod yX7_readMinute ∈ lw_good := mm_wd 1392 (by decide +kernel) (by decide +kernel)
theorem wd_37 : Cond.selects RX7 yX7_readMinute yX7_readMinute ∈ lw_good := mm_wd 37 (by decide +kernel) (by decide +kernel)
theorem wd_1335 : Cond.code yX7_readLaw cX7_readLaw 4 (some .boolean) ∈ lw_good := mm_wd 1335 (by decide +kernel) (by decide +kernel)
theorem tT_X7_readLaw : mm_T yX7_readLaw cX7_readLaw 4 (some .boolean) 1 := ⟨wd_1335, wd_148, by decide +kernel, by decide +kernel, by decide +kernel, by decide +kernel⟩
theorem wd_1332 : Cond.methodLink RX7 105 yX7_readLaw ∈ lw_good := mm_wd 1332 (by decide +kernel) (by decide +kernel)
theorem wd_1334 : Cond.instanceMethod yX7_readLaw ∈ lw_good := mm_wd 1334 (by decide +kernel) (by decide +kernel)
theorem wd_25 : Cond.selects RX7 yX7_readLaw yX7_readLaw ∈ lw_good := mm_wd 25 (by decide +kernel) (by decide +kernel)
theorem wd_1327 : Cond.code yX7_readCall cX7_readCall 6 (some .boolean) ∈ lw_good := mm_wd 1327 (by decide +kernel) (by decide +kernel)
theorem tT_X7_readCall : mm_T yX7_readCall cX7_readCall 6 (some .boolean) 0 := ⟨wd_1327, wd_148, by decide +kernel, by decide +kernel, by decide +kernel, by decide +kernel⟩
theorem wd_1324 : Cond.methodLink RX7 100 yX7_readCall ∈ lw_good := mm_wd 1324 (by decide +kernel) (by decide +kernel)
theorem wd_1326 : Cond.instanceMethod yX7_readCall ∈ lw_good := mm_wd 1326 (by decide +kernel) (by decide +kernel)
theorem wd_24 : Cond.selects RX7 yX7_readCall yX7_readCall ∈ lw_good := mm_wd 24 (by decide +kernel) (by decide +kernel)
theorem wd_1322 : Cond.code yX7_readCord cX7_readCord 4 (some .boolean) ∈ lw_good := mm_wd 1322 (by decide +kernel) (by decide +kernel)
theorem tT_X7_readCord : mm_T yX7_readCord cX7_readCord 4 (some .boolean) 0 := ⟨wd_1322, wd_148, by decide +kernel, by decide +kernel, by decide +kernel, by decide +kernel⟩
theorem wd_1319 : Cond.methodLink RX7 95 yX7_readCord ∈ lw_good := mm_wd 1319 (by decide +kernel) (by decide +kernel)
theorem wd_1321 : Cond.instanceMethod yX7_readCord ∈ lw_good := mm_wd 1321 (by decide +kernel) (by decide +kernel)
theorem wd_23 : Cond.selects RX7 yX7_readCord yX7_readCord ∈ lw_good := mm_wd 23 (by decide +kernel) (by decide +kernel)
def F_X7_read_207 (h : MH) : Option MH := some h
set_option maxRecDepth 20000 in
set_option maxHeartbeats 4000000 in
theorem w_X7_read_207 {d : Nat} {V : Nat → List (Nat × Value) → List Value → MH → Prop} {hz : MH} (hd : 138 ≤ d) (C : mm_C d yX7_read cX7_read 4 none (.inr none) hz V) (h : MH) (hK : F_X7_read_207  h = some hz) : V 207 [] [] h := by
  unfold F_X7_read_207 at hK
  cases hK
  exact mm_vret C (pc := 207) rfl dX7_read_207 rfl rfl
def F_X7_read_200 (k34 : Option Nat → Int32 → Int32 → MH → Option MH) (l0 : Option Nat) (l3 : Int32) (s0 : Int32) (h : MH) : Option MH := k34 l0 s0 (l3 + (1 : Int32)) h
set_option maxRecDepth 20000 in
set_option maxHeartbeats 4000000 in
theorem w_X7_read_200 {d : Nat} {V : Nat → List (Nat × Value) → List Value → MH → Prop} {hz : MH} {k34 : Option Nat → Int32 → Int32 → MH → Option MH} (hd : 138 ≤ d) (C : mm_C d yX7_read cX7_read 4 none (.inr none) hz V) (q34 : ∀ (x0 : Option Nat) (x1 : Int32) (x2 : Int32) (h : MH), k34 x0 x1 x2 h = some hz → V 34 [(0, va_rf x0), (2, .int x1), (3, .int x2)] [] h) (l0 : Option Nat) (l3 : Int32) (s0 : Int32) (h : MH) (hK : F_X7_read_200 k34 l0 l3 s0 h = some hz) : V 200 [(0, va_rf l0), (3, .int l3)] [.int s0] h := by
  unfold F_X7_read_200 at hK
  refine mm_istore_n C (pc := 200) (i := 2) (lv' := [(2, .int s0), (0, va_rf l0), (3, .int l3)]) dX7_read_200 rfl (by decide) rfl ?_
  refine mm_iinc C (pc := 201) (v := (l3 + (1 : Int32))) (lv' := [(3, .int (l3 + (1 : Int32))), (2, .int s0), (0, va_rf l0)]) 2 dX7_read_201 rfl rfl (by decide) rfl ?_
  refine mm_goto C (pc := 204) (tgt := 34) dX7_read_204 (by decide) ?_
  refine mm_sub C [2, 1, 0] rfl ?_
  exact q34 _ _ _ _ hK
def F_X7_read_199 (k34 : Option Nat → Int32 → Int32 → MH → Option MH) (l0 : Option Nat) (l3 : Int32) (h : MH) : Option MH := F_X7_read_200 k34 l0 l3 (0 : Int32) h
set_option maxRecDepth 20000 in
set_option maxHeartbeats 4000000 in
theorem w_X7_read_199 {d : Nat} {V : Nat → List (Nat × Value) → List Value → MH → Prop} {hz : MH} {k34 : Option Nat → Int32 → Int32 → MH → Option MH} (hd : 138 ≤ d) (C : mm_C d yX7_read cX7_read 4 none (.inr none) hz V) (q34 : ∀ (x0 : Option Nat) (x1 : Int32) (x2 : Int32) (h : MH), k34 x0 x1 x2 h = some hz → V 34 [(0, va_rf x0), (2, .int x1), (3, .int x2)] [] h) (l0 : Option Nat) (l3 : Int32) (h : MH) (hK : F_X7_read_199 k34 l0 l3 h = some hz) : V 199 [(0, va_rf l0), (3, .int l3)] [] h := by
  unfold F_X7_read_199 at hK
  refine mm_iconst C (pc := 199) (v := (0 : Int32)) dX7_read_199 (by decide) ?_
  exact w_X7_read_200 hd C (fun z0 z1 z2 z3 hK => q34 z0 z1 z2 z3 hK) _ _ _ _ hK
def F_X7_read_184 (k34 : Option Nat → Int32 → Int32 → MH → Option MH) (l0 : Option Nat) (l2 : Int32) (l3 : Int32) (h : MH) : Option MH := if l2 = 0 then (F_X7_read_199 k34 l0 l3 h) else (mm_b2 (cV h l0 7 (F_X7_endLine l0 h)) fun v189 h189 => if v189 = 0 then (F_X7_read_199 k34 l0 l3 h189) else (F_X7_read_200 k34 l0 l3 (1 : Int32) h189))
set_option maxRecDepth 20000 in
set_option maxHeartbeats 4000000 in
theorem w_X7_read_184 {d : Nat} {V : Nat → List (Nat × Value) → List Value → MH → Prop} {hz : MH} {k34 : Option Nat → Int32 → Int32 → MH → Option MH} (hd : 138 ≤ d) (C : mm_C d yX7_read cX7_read 4 none (.inr none) hz V) (q34 : ∀ (x0 : Option Nat) (x1 : Int32) (x2 : Int32) (h : MH), k34 x0 x1 x2 h = some hz → V 34 [(0, va_rf x0), (2, .int x1), (3, .int x2)] [] h) (l0 : Option Nat) (l2 : Int32) (l3 : Int32) (h : MH) (hK : F_X7_read_184 k34 l0 l2 l3 h = some hz) : V 184 [(0, va_rf l0), (2, .int l2), (3, .int l3)] [] h := by
  unfold F_X7_read_184 at hK
  refine mm_iload_n C (pc := 184) 1 dX7_read_184 rfl ?_
  refine mm_if_eq C (pc := 185) (tgt := 199) dX7_read_185 (by decide) (fun hc => ?_) (fun hc => ?_)
  · replace hK := mm_ip hc hK
    refine mm_sub C [0, 2] rfl ?_
    exact w_X7_read_199 hd C (fun z0 z1 z2 z3 hK => q34 z0 z1 z2 z3 hK) _ _ _ hK
  · replace hK := mm_in hc hK
    refine mm_aload_n C (pc := 188) 0 dX7_read_188 rfl ?_
    replace hK := mm_b2s hK; obtain ⟨v189, h189, e189, hK⟩ := hK
    obtain ⟨o189, e189⟩ := cV_some e189
    refine mm_callV C (pc := 189) (d1 := 7) (As := []) (st := []) (vk := (some (.int v189))) ((S_X7_endLine (by omega)) e189) tT_X7_endLine o189 (Or.inr ⟨_, rfl, rfl⟩) wd_1302 wd_1304 wd_21 (by omega) (by decide) rfl (by simp [mm_crf, mm_cti, mm_ctl]) rfl dX7_read_189 ?_
    show V _ _ (.int v189 :: _) _
    refine mm_if_eq C (pc := 192) (tgt := 199) dX7_read_192 (by decide) (fun hc => ?_) (fun hc => ?_)
    · replace hK := mm_ip hc hK
      refine mm_sub C [0, 2] rfl ?_
      exact w_X7_read_199 hd C (fun z0 z1 z2 z3 hK => q34 z0 z1 z2 z3 hK) _ _ _ hK
    · replace hK := mm_in hc hK
      refine mm_iconst C (pc := 195) (v := (1 : Int32)) dX7_read_195 (by decide) ?_
      refine mm_goto C (pc := 196) (tgt := 200) dX7_read_196 (by decide) ?_
      refine mm_sub C [0, 2] rfl ?_
      exact w_X7_read_200 hd C (fun z0 z1 z2 z3 hK => q34 z0 z1 z2 z3 hK) _ _ _ _ hK
def F_X7_read_34 : Nat → Option Nat → Int32 → Int32 → MH → Option MH
  | 0 => fun _ _ _ _ => none
  | n + 1 => fun l0 l2 l3 h => if (900 : Int32) ≤ l3 then (F_X7_read_207 h) else (if l2 = 0 then (F_X7_read_207 h) else ((gR h l0 7 0).bind fun v46 => mm_b2 (cV h v46 9 (F_X9_isEnd v46 h)) fun v49 h49 => if v49 = 0 then ((gR h49 l0 7 0).bind fun v56 => mm_b2 (cV h49 v56 9 (F_X9_isWord v56 (some 4 : Option Nat) h49)) fun v61 h61 => if v61 = 0 then ((gR h61 l0 7 0).bind fun v76 => mm_b2 (cV h61 v76 9 (F_X9_isWord v76 (some 5 : Option Nat) h61)) fun v81 h81 => if v81 = 0 then ((gR h81 l0 7 0).bind fun v96 => mm_b2 (cV h81 v96 9 (F_X9_isWord v96 (some 9 : Option Nat) h81)) fun v101 h101 => if v101 = 0 then ((gR h101 l0 7 0).bind fun v117 => mm_b2 (cV h101 v117 9 (F_X9_isWord v117 (some 15 : Option Nat) h101)) fun v122 h122 => if v122 = 0 then ((gR h122 l0 7 0).bind fun v138 => mm_b2 (cV h122 v138 9 (F_X9_isWord v138 (some 19 : Option Nat) h122)) fun v143 h143 => if v143 = 0 then ((gR h143 l0 7 0).bind fun v159 => mm_b2 (cV h143 v159 9 (F_X9_isWord v159 (some 14 : Option Nat) h143)) fun v164 h164 => if v164 = 0 then (mm_b2 (cV h164 l0 7 (F_X7_refuse l0 (2 : Int32) h164)) fun v180 h180 => F_X7_read_184 (F_X7_read_34 n) l0 v180 l3 h180) else (mm_b2 (cV h164 l0 7 (F_X7_readMinute l0 h164)) fun v171 h171 => F_X7_read_184 (F_X7_read_34 n) l0 v171 l3 h171)) else (mm_b2 (cV h143 l0 7 (F_X7_readLaw l0 (2 : Int32) h143)) fun v151 h151 => F_X7_read_184 (F_X7_read_34 n) l0 v151 l3 h151)) else (mm_b2 (cV h122 l0 7 (F_X7_readLaw l0 (1 : Int32) h122)) fun v130 h130 => F_X7_read_184 (F_X7_read_34 n) l0 v130 l3 h130)) else (mm_b2 (cV h101 l0 7 (F_X7_readLaw l0 (0 : Int32) h101)) fun v109 h109 => F_X7_read_184 (F_X7_read_34 n) l0 v109 l3 h109)) else (mm_b2 (cV h81 l0 7 (F_X7_readCall l0 h81)) fun v88 h88 => F_X7_read_184 (F_X7_read_34 n) l0 v88 l3 h88)) else (mm_b2 (cV h61 l0 7 (F_X7_readCord l0 h61)) fun v68 h68 => F_X7_read_184 (F_X7_read_34 n) l0 v68 l3 h68)) else (F_X7_read_207 h49)))
set_option maxRecDepth 20000 in
set_option maxHeartbeats 4000000 in
theorem w_X7_read_34 {d : Nat} {V : Nat → List (Nat × Value) → List Value → MH → Prop} {hz : MH} (hd : 138 ≤ d) (C : mm_C d yX7_read cX7_read 4 none (.inr none) hz V) : ∀ (n : Nat) (l0 : Option Nat) (l2 : Int32) (l3 : Int32) (h : MH), F_X7_read_34 n l0 l2 l3 h = some hz → V 34 [(0, va_rf l0), (2, .int l2), (3, .int l3)] [] h := by
  intro n
  induction n with
  | zero => intro l0 l2 l3 h hK; cases hK
  | succ n ih =>
    intro l0 l2 l3 h hK
    replace hK : (if (900 : Int32) ≤ l3 then (F_X7_read_207 h) else (if l2 = 0 then (F_X7_read_207 h) else ((gR h l0 7 0).bind fun v46 => mm_b2 (cV h v46 9 (F_X9_isEnd v46 h)) fun v49 h49 => if v49 = 0 then ((gR h49 l0 7 0).bind fun v56 => mm_b2 (cV h49 v56 9 (F_X9_isWord v56 (some 4 : Option Nat) h49)) fun v61 h61 => if v61 = 0 then ((gR h61 l0 7 0).bind fun v76 => mm_b2 (cV h61 v76 9 (F_X9_isWord v76 (some 5 : Option Nat) h61)) fun v81 h81 => if v81 = 0 then ((gR h81 l0 7 0).bind fun v96 => mm_b2 (cV h81 v96 9 (F_X9_isWord v96 (some 9 : Option Nat) h81)) fun v101 h101 => if v101 = 0 then ((gR h101 l0 7 0).bind fun v117 => mm_b2 (cV h101 v117 9 (F_X9_isWord v117 (some 15 : Option Nat) h101)) fun v122 h122 => if v122 = 0 then ((gR h122 l0 7 0).bind fun v138 => mm_b2 (cV h122 v138 9 (F_X9_isWord v138 (some 19 : Option Nat) h122)) fun v143 h143 => if v143 = 0 then ((gR h143 l0 7 0).bind fun v159 => mm_b2 (cV h143 v159 9 (F_X9_isWord v159 (some 14 : Option Nat) h143)) fun v164 h164 => if v164 = 0 then (mm_b2 (cV h164 l0 7 (F_X7_refuse l0 (2 : Int32) h164)) fun v180 h180 => F_X7_read_184 (F_X7_read_34 n) l0 v180 l3 h180) else (mm_b2 (cV h164 l0 7 (F_X7_readMinute l0 h164)) fun v171 h171 => F_X7_read_184 (F_X7_read_34 n) l0 v171 l3 h171)) else (mm_b2 (cV h143 l0 7 (F_X7_readLaw l0 (2 : Int32) h143)) fun v151 h151 => F_X7_read_184 (F_X7_read_34 n) l0 v151 l3 h151)) else (mm_b2 (cV h122 l0 7 (F_X7_readLaw l0 (1 : Int32) h122)) fun v130 h130 => F_X7_read_184 (F_X7_read_34 n) l0 v130 l3 h130)) else (mm_b2 (cV h101 l0 7 (F_X7_readLaw l0 (0 : Int32) h101)) fun v109 h109 => F_X7_read_184 (F_X7_read_34 n) l0 v109 l3 h109)) else (mm_b2 (cV h81 l0 7 (F_X7_readCall l0 h81)) fun v88 h88 => F_X7_read_184 (F_X7_read_34 n) l0 v88 l3 h88)) else (mm_b2 (cV h61 l0 7 (F_X7_readCord l0 h61)) fun v68 h68 => F_X7_read_184 (F_X7_read_34 n) l0 v68 l3 h68)) else (F_X7_read_207 h49)))) = some hz := hK
    refine mm_iload_n C (pc := 34) 2 dX7_read_34 rfl ?_
    refine mm_sipush C (pc := 35) (v := (900 : Int32)) dX7_read_35 (by decide) ?_
    refine mm_icmp_ge C (pc := 38) (tgt := 207) dX7_read_38 (by decide) (fun hc => ?_) (fun hc => ?_)
    · replace hK := mm_ip hc hK
      refine mm_sub C [] rfl ?_
      exact w_X7_read_207 hd C _ hK
    · replace hK := mm_in hc hK
      refine mm_iload_n C (pc := 41) 1 dX7_read_41 rfl ?_
      refine mm_if_eq C (pc := 42) (tgt := 207) dX7_read_42 (by decide) (fun hc => ?_) (fun hc => ?_)
      · replace hK := mm_ip hc hK
        refine mm_sub C [] rfl ?_
        exact w_X7_read_207 hd C _ hK
      · replace hK := mm_in hc hK
        refine mm_aload_n C (pc := 45) 0 dX7_read_45 rfl ?_
        replace hK := mm_bd hK; obtain ⟨v46, e46, hK⟩ := hK
        refine mm_getr C (pc := 46) (k := 0) inGX7 rfl (by decide) wd_351 dX7_read_46 e46 ?_
        replace hK := mm_b2s hK; obtain ⟨v49, h49, e49, hK⟩ := hK
        obtain ⟨o49, e49⟩ := cV_some e49
        refine mm_callV C (pc := 49) (d1 := 1) (As := []) (st := []) (vk := (some (.int v49))) ((S_X9_isEnd (by omega)) e49) tT_X9_isEnd o49 (Or.inr ⟨_, rfl, rfl⟩) wd_1314 wd_1315 wd_1316 (by omega) (by decide) rfl (by simp [mm_crf, mm_cti, mm_ctl]) rfl dX7_read_49 ?_
        show V _ _ (.int v49 :: _) _
        refine mm_if_ne C (pc := 52) (tgt := 207) dX7_read_52 (by decide) (fun hc => ?_) (fun hc => ?_)
        · replace hK := mm_in hc hK
          refine mm_sub C [] rfl ?_
          exact w_X7_read_207 hd C _ hK
        · replace hK := mm_ip hc hK
          refine mm_aload_n C (pc := 55) 0 dX7_read_55 rfl ?_
          replace hK := mm_bd hK; obtain ⟨v56, e56, hK⟩ := hK
          refine mm_getr C (pc := 56) (k := 0) inGX7 rfl (by decide) wd_351 dX7_read_56 e56 ?_
          refine mm_ldcS C (pc := 59) (i := 4) (by decide) (by rfl) dX7_read_59 ?_
          replace hK := mm_b2s hK; obtain ⟨v61, h61, e61, hK⟩ := hK
          obtain ⟨o61, e61⟩ := cV_some e61
          refine mm_callV C (pc := 61) (d1 := 5) (As := [va_rf (some 4 : Option Nat)]) (st := []) (vk := (some (.int v61))) ((S_X9_isWord (by omega)) e61) tT_X9_isWord o61 (Or.inr ⟨_, rfl, rfl⟩) wd_1252 wd_1253 wd_1254 (by omega) (by decide) rfl (by simp [mm_crf, mm_cti, mm_ctl]) rfl dX7_read_61 ?_
          show V _ _ (.int v61 :: _) _
          refine mm_if_eq C (pc := 64) (tgt := 75) dX7_read_64 (by decide) (fun hc => ?_) (fun hc => ?_)
          · replace hK := mm_ip hc hK
            refine mm_aload_n C (pc := 75) 0 dX7_read_75 rfl ?_
            replace hK := mm_bd hK; obtain ⟨v76, e76, hK⟩ := hK
            refine mm_getr C (pc := 76) (k := 0) inGX7 rfl (by decide) wd_351 dX7_read_76 e76 ?_
            refine mm_ldcS C (pc := 79) (i := 5) (by decide) (by rfl) dX7_read_79 ?_
            replace hK := mm_b2s hK; obtain ⟨v81, h81, e81, hK⟩ := hK
            obtain ⟨o81, e81⟩ := cV_some e81
            refine mm_callV C (pc := 81) (d1 := 5) (As := [va_rf (some 5 : Option Nat)]) (st := []) (vk := (some (.int v81))) ((S_X9_isWord (by omega)) e81) tT_X9_isWord o81 (Or.inr ⟨_, rfl, rfl⟩) wd_1252 wd_1253 wd_1254 (by omega) (by decide) rfl (by simp [mm_crf, mm_cti, mm_ctl]) rfl dX7_read_81 ?_
            show V _ _ (.int v81 :: _) _
            refine mm_if_eq C (pc := 84) (tgt := 95) dX7_read_84 (by decide) (fun hc => ?_) (fun hc => ?_)
            · replace hK := mm_ip hc hK
              refine mm_aload_n C (pc := 95) 0 dX7_read_95 rfl ?_
              replace hK := mm_bd hK; obtain ⟨v96, e96, hK⟩ := hK
              refine mm_getr C (pc := 96) (k := 0) inGX7 rfl (by decide) wd_351 dX7_read_96 e96 ?_
              refine mm_ldcS C (pc := 99) (i := 9) (by decide) (by rfl) dX7_read_99 ?_
              replace hK := mm_b2s hK; obtain ⟨v101, h101, e101, hK⟩ := hK
              obtain ⟨o101, e101⟩ := cV_some e101
              refine mm_callV C (pc := 101) (d1 := 5) (As := [va_rf (some 9 : Option Nat)]) (st := []) (vk := (some (.int v101))) ((S_X9_isWord (by omega)) e101) tT_X9_isWord o101 (Or.inr ⟨_, rfl, rfl⟩) wd_1252 wd_1253 wd_1254 (by omega) (by decide) rfl (by simp [mm_crf, mm_cti, mm_ctl]) rfl dX7_read_101 ?_
              show V _ _ (.int v101 :: _) _
              refine mm_if_eq C (pc := 104) (tgt := 116) dX7_read_104 (by decide) (fun hc => ?_) (fun hc => ?_)
              · replace hK := mm_ip hc hK
                refine mm_aload_n C (pc := 116) 0 dX7_read_116 rfl ?_
                replace hK := mm_bd hK; obtain ⟨v117, e117, hK⟩ := hK
                refine mm_getr C (pc := 117) (k := 0) inGX7 rfl (by decide) wd_351 dX7_read_117 e117 ?_
                refine mm_ldcS C (pc := 120) (i := 15) (by decide) (by rfl) dX7_read_120 ?_
                replace hK := mm_b2s hK; obtain ⟨v122, h122, e122, hK⟩ := hK
                obtain ⟨o122, e122⟩ := cV_some e122
                refine mm_callV C (pc := 122) (d1 := 5) (As := [va_rf (some 15 : Option Nat)]) (st := []) (vk := (some (.int v122))) ((S_X9_isWord (by omega)) e122) tT_X9_isWord o122 (Or.inr ⟨_, rfl, rfl⟩) wd_1252 wd_1253 wd_1254 (by omega) (by decide) rfl (by simp [mm_crf, mm_cti, mm_ctl]) rfl dX7_read_122 ?_
                show V _ _ (.int v122 :: _) _
                refine mm_if_eq C (pc := 125) (tgt := 137) dX7_read_125 (by decide) (fun hc => ?_) (fun hc => ?_)
                · replace hK := mm_ip hc hK
                  refine mm_aload_n C (pc := 137) 0 dX7_read_137 rfl ?_
                  replace hK := mm_bd hK; obtain ⟨v138, e138, hK⟩ := hK
                  refine mm_getr C (pc := 138) (k := 0) inGX7 rfl (by decide) wd_351 dX7_read_138 e138 ?_
                  refine mm_ldcS C (pc := 141) (i := 19) (by decide) (by rfl) dX7_read_141 ?_
                  replace hK := mm_b2s hK; obtain ⟨v143, h143, e143, hK⟩ := hK
                  obtain ⟨o143, e143⟩ := cV_some e143
                  refine mm_callV C (pc := 143) (d1 := 5) (As := [va_rf (some 19 : Option Nat)]) (st := []) (vk := (some (.int v143))) ((S_X9_isWord (by omega)) e143) tT_X9_isWord o143 (Or.inr ⟨_, rfl, rfl⟩) wd_1252 wd_1253 wd_1254 (by omega) (by decide) rfl (by simp [mm_crf, mm_cti, mm_ctl]) rfl dX7_read_143 ?_
                  show V _ _ (.int v143 :: _) _
                  refine mm_if_eq C (pc := 146) (tgt := 158) dX7_read_146 (by decide) (fun hc => ?_) (fun hc => ?_)
                  · replace hK := mm_ip hc hK
                    refine mm_aload_n C (pc := 158) 0 dX7_read_158 rfl ?_
                    replace hK := mm_bd hK; obtain ⟨v159, e159, hK⟩ := hK
                    refine mm_getr C (pc := 159) (k := 0) inGX7 rfl (by decide) wd_351 dX7_read_159 e159 ?_
                    refine mm_ldcS C (pc := 162) (i := 14) (by decide) (by rfl) dX7_read_162 ?_
                    replace hK := mm_b2s hK; obtain ⟨v164, h164, e164, hK⟩ := hK
                    obtain ⟨o164, e164⟩ := cV_some e164
                    refine mm_callV C (pc := 164) (d1 := 5) (As := [va_rf (some 14 : Option Nat)]) (st := []) (vk := (some (.int v164))) ((S_X9_isWord (by omega)) e164) tT_X9_isWord o164 (Or.inr ⟨_, rfl, rfl⟩) wd_1252 wd_1253 wd_1254 (by omega) (by decide) rfl (by simp [mm_crf, mm_cti, mm_ctl]) rfl dX7_read_164 ?_
                    show V _ _ (.int v164 :: _) _
                    refine mm_if_eq C (pc := 167) (tgt := 178) dX7_read_167 (by decide) (fun hc => ?_) (fun hc => ?_)
                    · replace hK := mm_ip hc hK
                      refine mm_aload_n C (pc := 178) 0 dX7_read_178 rfl ?_
                      refine mm_iconst C (pc := 179) (v := (2 : Int32)) dX7_read_179 (by decide) ?_
                      replace hK := mm_b2s hK; obtain ⟨v180, h180, e180, hK⟩ := hK
                      obtain ⟨o180, e180⟩ := cV_some e180
                      refine mm_callV C (pc := 180) (d1 := 2) (As := [.int (2 : Int32)]) (st := []) (vk := (some (.int v180))) ((S_X7_refuse (by omega)) e180) tT_X7_refuse o180 (Or.inr ⟨_, rfl, rfl⟩) wd_1277 wd_1279 wd_19 (by omega) (by decide) rfl (by simp [mm_crf, mm_cti, mm_ctl]) rfl dX7_read_180 ?_
                      show V _ _ (.int v180 :: _) _
                      refine mm_istore_n C (pc := 183) (i := 2) (lv' := [(2, .int v180), (0, va_rf l0), (3, .int l3)]) dX7_read_183 rfl (by decide) rfl ?_
                      refine mm_sub C [1, 0, 2] rfl ?_
                      exact w_X7_read_184 hd C (fun z0 z1 z2 z3 hK => ih z0 z1 z2 z3 hK) _ _ _ _ hK
                    · replace hK := mm_in hc hK
                      refine mm_aload_n C (pc := 170) 0 dX7_read_170 rfl ?_
                      replace hK := mm_b2s hK; obtain ⟨v171, h171, e171, hK⟩ := hK
                      obtain ⟨o171, e171⟩ := cV_some e171
                      refine mm_callV C (pc := 171) (d1 := 7) (As := []) (st := []) (vk := (some (.int v171))) ((S_X7_readMinute (by omega)) e171) tT_X7_readMinute o171 (Or.inr ⟨_, rfl, rfl⟩) wd_1390 wd_1392 wd_37 (by omega) (by decide) rfl (by simp [mm_crf, mm_cti, mm_ctl]) rfl dX7_read_171 ?_
                      show V _ _ (.int v171 :: _) _
                      refine mm_istore_n C (pc := 174) (i := 2) (lv' := [(2, .int v171), (0, va_rf l0), (3, .int l3)]) dX7_read_174 rfl (by decide) rfl ?_
                      refine mm_goto C (pc := 175) (tgt := 184) dX7_read_175 (by decide) ?_
                      refine mm_sub C [1, 0, 2] rfl ?_
                      exact w_X7_read_184 hd C (fun z0 z1 z2 z3 hK => ih z0 z1 z2 z3 hK) _ _ _ _ hK
                  · replace hK := mm_in hc hK
                    refine mm_aload_n C (pc := 149) 0 dX7_read_149 rfl ?_
                    refine mm_iconst C (pc := 150) (v := (2 : Int32)) dX7_read_150 (by decide) ?_
                    replace hK := mm_b2s hK; obtain ⟨v151, h151, e151, hK⟩ := hK
                    obtain ⟨o151, e151⟩ := cV_some e151
                    refine mm_callV C (pc := 151) (d1 := 137) (As := [.int (2 : Int32)]) (st := []) (vk := (some (.int v151))) ((S_X7_readLaw (by omega)) e151) tT_X7_readLaw o151 (Or.inr ⟨_, rfl, rfl⟩) wd_1332 wd_1334 wd_25 (by omega) (by decide) rfl (by simp [mm_crf, mm_cti, mm_ctl]) rfl dX7_read_151 ?_
                    show V _ _ (.int v151 :: _) _
                    refine mm_istore_n C (pc := 154) (i := 2) (lv' := [(2, .int v151), (0, va_rf l0), (3, .int l3)]) dX7_read_154 rfl (by decide) rfl ?_
                    refine mm_goto C (pc := 155) (tgt := 184) dX7_read_155 (by decide) ?_
                    refine mm_sub C [1, 0, 2] rfl ?_
                    exact w_X7_read_184 hd C (fun z0 z1 z2 z3 hK => ih z0 z1 z2 z3 hK) _ _ _ _ hK
                · replace hK := mm_in hc hK
                  refine mm_aload_n C (pc := 128) 0 dX7_read_128 rfl ?_
                  refine mm_iconst C (pc := 129) (v := (1 : Int32)) dX7_read_129 (by decide) ?_
                  replace hK := mm_b2s hK; obtain ⟨v130, h130, e130, hK⟩ := hK
                  obtain ⟨o130, e130⟩ := cV_some e130
                  refine mm_callV C (pc := 130) (d1 := 137) (As := [.int (1 : Int32)]) (st := []) (vk := (some (.int v130))) ((S_X7_readLaw (by omega)) e130) tT_X7_readLaw o130 (Or.inr ⟨_, rfl, rfl⟩) wd_1332 wd_1334 wd_25 (by omega) (by decide) rfl (by simp [mm_crf, mm_cti, mm_ctl]) rfl dX7_read_130 ?_
                  show V _ _ (.int v130 :: _) _
                  refine mm_istore_n C (pc := 133) (i := 2) (lv' := [(2, .int v130), (0, va_rf l0), (3, .int l3)]) dX7_read_133 rfl (by decide) rfl ?_
                  refine mm_goto C (pc := 134) (tgt := 184) dX7_read_134 (by decide) ?_
                  refine mm_sub C [1, 0, 2] rfl ?_
                  exact w_X7_read_184 hd C (fun z0 z1 z2 z3 hK => ih z0 z1 z2 z3 hK) _ _ _ _ hK
              · replace hK := mm_in hc hK
                refine mm_aload_n C (pc := 107) 0 dX7_read_107 rfl ?_
                refine mm_iconst C (pc := 108) (v := (0 : Int32)) dX7_read_108 (by decide) ?_
                replace hK := mm_b2s hK; obtain ⟨v109, h109, e109, hK⟩ := hK
                obtain ⟨o109, e109⟩ := cV_some e109
                refine mm_callV C (pc := 109) (d1 := 137) (As := [.int (0 : Int32)]) (st := []) (vk := (some (.int v109))) ((S_X7_readLaw (by omega)) e109) tT_X7_readLaw o109 (Or.inr ⟨_, rfl, rfl⟩) wd_1332 wd_1334 wd_25 (by omega) (by decide) rfl (by simp [mm_crf, mm_cti, mm_ctl]) rfl dX7_read_109 ?_
                show V _ _ (.int v109 :: _) _
                refine mm_istore_n C (pc := 112) (i := 2) (lv' := [(2, .int v109), (0, va_rf l0), (3, .int l3)]) dX7_read_112 rfl (by decide) rfl ?_
                refine mm_goto C (pc := 113) (tgt := 184) dX7_read_113 (by decide) ?_
                refine mm_sub C [1, 0, 2] rfl ?_
                exact w_X7_read_184 hd C (fun z0 z1 z2 z3 hK => ih z0 z1 z2 z3 hK) _ _ _ _ hK
            · replace hK := mm_in hc hK
              refine mm_aload_n C (pc := 87) 0 dX7_read_87 rfl ?_
              replace hK := mm_b2s hK; obtain ⟨v88, h88, e88, hK⟩ := hK
              obtain ⟨o88, e88⟩ := cV_some e88
              refine mm_callV C (pc := 88) (d1 := 7) (As := []) (st := []) (vk := (some (.int v88))) ((S_X7_readCall (by omega)) e88) tT_X7_readCall o88 (Or.inr ⟨_, rfl, rfl⟩) wd_1324 wd_1326 wd_24 (by omega) (by decide) rfl (by simp [mm_crf, mm_cti, mm_ctl]) rfl dX7_read_88 ?_
              show V _ _ (.int v88 :: _) _
              refine mm_istore_n C (pc := 91) (i := 2) (lv' := [(2, .int v88), (0, va_rf l0), (3, .int l3)]) dX7_read_91 rfl (by decide) rfl ?_
              refine mm_goto C (pc := 92) (tgt := 184) dX7_read_92 (by decide) ?_
              refine mm_sub C [1, 0, 2] rfl ?_
              exact w_X7_read_184 hd C (fun z0 z1 z2 z3 hK => ih z0 z1 z2 z3 hK) _ _ _ _ hK
          · replace hK := mm_in hc hK
            refine mm_aload_n C (pc := 67) 0 dX7_read_67 rfl ?_
            replace hK := mm_b2s hK; obtain ⟨v68, h68, e68, hK⟩ := hK
            obtain ⟨o68, e68⟩ := cV_some e68
            refine mm_callV C (pc := 68) (d1 := 7) (As := []) (st := []) (vk := (some (.int v68))) ((S_X7_readCord (by omega)) e68) tT_X7_readCord o68 (Or.inr ⟨_, rfl, rfl⟩) wd_1319 wd_1321 wd_23 (by omega) (by decide) rfl (by simp [mm_crf, mm_cti, mm_ctl]) rfl dX7_read_68 ?_
            show V _ _ (.int v68 :: _) _
            refine mm_istore_n C (pc := 71) (i := 2) (lv' := [(2, .int v68), (0, va_rf l0), (3, .int l3)]) dX7_read_71 rfl (by decide) rfl ?_
            refine mm_goto C (pc := 72) (tgt := 184) dX7_read_72 (by decide) ?_
            refine mm_sub C [1, 0, 2] rfl ?_
            exact w_X7_read_184 hd C (fun z0 z1 z2 z3 hK => ih z0 z1 z2 z3 hK) _ _ _ _ hK
def F_X7_read_31 (l0 : Option Nat) (s0 : Int32) (h : MH) : Option MH := F_X7_read_34 mm_N l0 s0 (0 : Int32) h
set_option maxRecDepth 20000 in
set_option maxHeartbeats 4000000 in
theorem w_X7_read_31 {d : Nat} {V : Nat → List (Nat × Value) → List Value → MH → Prop} {hz : MH} (hd : 138 ≤ d) (C : mm_C d yX7_read cX7_read 4 none (.inr none) hz V) (l0 : Option Nat) (s0 : Int32) (h : MH) (hK : F_X7_read_31 l0 s0 h = some hz) : V 31 [(0, va_rf l0)] [.int s0] h := by
  unfold F_X7_read_31 at hK
  refine mm_istore_n C (pc := 31) (i := 2) (lv' := [(2, .int s0), (0, va_rf l0)]) dX7_read_31 rfl (by decide) rfl ?_
  refine mm_iconst C (pc := 32) (v := (0 : Int32)) dX7_read_32 (by decide) ?_
  refine mm_istore_n C (pc := 33) (i := 3) (lv' := [(3, .int (0 : Int32)), (2, .int s0), (0, va_rf l0)]) dX7_read_33 rfl (by decide) rfl ?_
  refine mm_sub C [2, 1, 0] rfl ?_
  exact w_X7_read_34 hd C _ _ _ _ _ hK
def F_X7_read_30 (l0 : Option Nat) (h : MH) : Option MH := F_X7_read_31 l0 (0 : Int32) h
set_option maxRecDepth 20000 in
set_option maxHeartbeats 4000000 in
theorem w_X7_read_30 {d : Nat} {V : Nat → List (Nat × Value) → List Value → MH → Prop} {hz : MH} (hd : 138 ≤ d) (C : mm_C d yX7_read cX7_read 4 none (.inr none) hz V) (l0 : Option Nat) (h : MH) (hK : F_X7_read_30 l0 h = some hz) : V 30 [(0, va_rf l0)] [] h := by
  unfold F_X7_read_30 at hK
  refine mm_iconst C (pc := 30) (v := (0 : Int32)) dX7_read_30 (by decide) ?_
  exact w_X7_read_31 hd C _ _ _ hK
def F_X7_read (a0 : Option Nat) (a1 : Int32) (h : MH) : Option MH := (cV h a0 7 (F_X7_clear a0 h)).bind fun h1 => (gR h1 a0 7 0).bind fun v5 => (cV h1 v5 9 (F_X9_open v5 a1 h1)).bind fun h9 => mm_b2 (cV h9 a0 7 (F_X7_readHead a0 h9)) fun v13 h13 => if v13 = 0 then (F_X7_read_30 a0 h13) else (mm_b2 (cV h13 a0 7 (F_X7_endLine a0 h13)) fun v20 h20 => if v20 = 0 then (F_X7_read_30 a0 h20) else (F_X7_read_31 a0 (1 : Int32) h20))
set_option maxRecDepth 20000 in
set_option maxHeartbeats 4000000 in
theorem S_X7_read {d : Nat} (hd : 138 ≤ d) {a0 : Option Nat} {a1 : Int32} {h : MH} {hz : MH} (hK : F_X7_read a0 a1 h = some hz) : mm_M yX7_read cX7_read 4 none d [va_rf a0, .int a1] h (.inr none) hz := by
  refine mm_ofV (by decide +kernel) (by simp [lg_sl, mm_crf, mm_cti, mm_ctl]) (fun V C => ?_)
  rw [show lv_args 0 [va_rf a0, .int a1] = [(0, va_rf a0), (1, .int a1)] by simp [lv_args, mm_crf, mm_cti, mm_ctl]]
  unfold F_X7_read at hK
  refine mm_aload_n C (pc := 0) 0 dX7_read_0 rfl ?_
  replace hK := mm_bd hK; obtain ⟨h1, e1, hK⟩ := hK
  obtain ⟨o1, e1⟩ := cV_some e1
  refine mm_callV C (pc := 1) (d1 := 2) (As := []) (st := []) (vk := none) ((S_X7_clear (by omega)) e1) tT_X7_clear o1 (Or.inr ⟨_, rfl, rfl⟩) wd_1173 wd_1175 wd_15 (by omega) (by decide) rfl (by simp [mm_crf, mm_cti, mm_ctl]) rfl dX7_read_1 ?_
  show V _ _ [] _
  refine mm_aload_n C (pc := 4) 0 dX7_read_4 rfl ?_
  replace hK := mm_bd hK; obtain ⟨v5, e5, hK⟩ := hK
  refine mm_getr C (pc := 5) (k := 0) inGX7 rfl (by decide) wd_351 dX7_read_5 e5 ?_
  refine mm_iload_n C (pc := 8) 1 dX7_read_8 rfl ?_
  replace hK := mm_bd hK; obtain ⟨h9, e9, hK⟩ := hK
  obtain ⟨o9, e9⟩ := cV_some e9
  refine mm_callV C (pc := 9) (d1 := 6) (As := [.int a1]) (st := []) (vk := none) ((S_X9_open (by omega)) e9) tT_X9_open o9 (Or.inr ⟨_, rfl, rfl⟩) wd_1178 wd_1179 wd_1180 (by omega) (by decide) rfl (by simp [mm_crf, mm_cti, mm_ctl]) rfl dX7_read_9 ?_
  show V _ _ [] _
  refine mm_aload_n C (pc := 12) 0 dX7_read_12 rfl ?_
  replace hK := mm_b2s hK; obtain ⟨v13, h13, e13, hK⟩ := hK
  obtain ⟨o13, e13⟩ := cV_some e13
  refine mm_callV C (pc := 13) (d1 := 7) (As := []) (st := []) (vk := (some (.int v13))) ((S_X7_readHead (by omega)) e13) tT_X7_readHead o13 (Or.inr ⟨_, rfl, rfl⟩) wd_1243 wd_1245 wd_17 (by omega) (by decide) rfl (by simp [mm_crf, mm_cti, mm_ctl]) rfl dX7_read_13 ?_
  show V _ _ (.int v13 :: _) _
  refine mm_if_eq C (pc := 16) (tgt := 30) dX7_read_16 (by decide) (fun hc => ?_) (fun hc => ?_)
  · replace hK := mm_ip hc hK
    refine mm_sub C [0] rfl ?_
    exact w_X7_read_30 hd C _ _ hK
  · replace hK := mm_in hc hK
    refine mm_aload_n C (pc := 19) 0 dX7_read_19 rfl ?_
    replace hK := mm_b2s hK; obtain ⟨v20, h20, e20, hK⟩ := hK
    obtain ⟨o20, e20⟩ := cV_some e20
    refine mm_callV C (pc := 20) (d1 := 7) (As := []) (st := []) (vk := (some (.int v20))) ((S_X7_endLine (by omega)) e20) tT_X7_endLine o20 (Or.inr ⟨_, rfl, rfl⟩) wd_1302 wd_1304 wd_21 (by omega) (by decide) rfl (by simp [mm_crf, mm_cti, mm_ctl]) rfl dX7_read_20 ?_
    show V _ _ (.int v20 :: _) _
    refine mm_if_eq C (pc := 23) (tgt := 30) dX7_read_23 (by decide) (fun hc => ?_) (fun hc => ?_)
    · replace hK := mm_ip hc hK
      refine mm_sub C [0] rfl ?_
      exact w_X7_read_30 hd C _ _ hK
    · replace hK := mm_in hc hK
      refine mm_iconst C (pc := 26) (v := (1 : Int32)) dX7_read_26 (by decide) ?_
      refine mm_goto C (pc := 27) (tgt := 31) dX7_read_27 (by decide) ?_
      refine mm_sub C [0] rfl ?_
      exact w_X7_read_31 hd C _ _ _ hK
def F_X7_flaw (a0 : Option Nat) (h : MH) : Option (Int32 × MH) := (gI h a0 7 13).bind fun v1 => some (v1, h)
set_option maxRecDepth 20000 in
set_option maxHeartbeats 4000000 in
theorem S_X7_flaw {d : Nat} (hd : 1 ≤ d) {a0 : Option Nat} {h : MH} {r : Int32} {hz : MH} (hK : F_X7_flaw a0 h = some (r, hz)) : mm_M yX7_flaw cX7_flaw 1 (some .int) d [va_rf a0] h (.inr (some (.int r))) hz := by
  refine mm_ofV (by decide +kernel) (by simp [lg_sl, mm_crf, mm_cti, mm_ctl]) (fun V C => ?_)
  rw [show lv_args 0 [va_rf a0] = [(0, va_rf a0)] by simp [lv_args, mm_crf, mm_cti, mm_ctl]]
  unfold F_X7_flaw at hK
  refine mm_aload_n C (pc := 0) 0 dX7_flaw_0 rfl ?_
  replace hK := mm_bd hK; obtain ⟨v1, e1, hK⟩ := hK
  refine mm_geti C (pc := 1) (k := 13) inGX7 rfl (by decide) wd_364 dX7_flaw_1 e1 ?_
  cases hK
  exact mm_iret C (pc := 4) rfl dX7_flaw_4 rfl rfl
def F_X7_flawPlace (a0 : Option Nat) (h : MH) : Option (Int32 × MH) := (gI h a0 7 14).bind fun v1 => some (v1, h)
set_option maxRecDepth 20000 in
set_option maxHeartbeats 4000000 in
theorem S_X7_flawPlace {d : Nat} (hd : 1 ≤ d) {a0 : Option Nat} {h : MH} {r : Int32} {hz : MH} (hK : F_X7_flawPlace a0 h = some (r, hz)) : mm_M yX7_flawPlace cX7_flawPlace 1 (some .int) d [va_rf a0] h (.inr (some (.int r))) hz := by
  refine mm_ofV (by decide +kernel) (by simp [lg_sl, mm_crf, mm_cti, mm_ctl]) (fun V C => ?_)
  rw [show lv_args 0 [va_rf a0] = [(0, va_rf a0)] by simp [lv_args, mm_crf, mm_cti, mm_ctl]]
  unfold F_X7_flawPlace at hK
  refine mm_aload_n C (pc := 0) 0 dX7_flawPlace_0 rfl ?_
  replace hK := mm_bd hK; obtain ⟨v1, e1, hK⟩ := hK
  refine mm_geti C (pc := 1) (k := 14) inGX7 rfl (by decide) wd_365 dX7_flawPlace_1 e1 ?_
  cases hK
  exact mm_iret C (pc := 4) rfl dX7_flawPlace_4 rfl rfl
def F_X7_minute (a0 : Option Nat) (h : MH) : Option (Int32 × MH) := (gI h a0 7 9).bind fun v1 => some (v1, h)
set_option maxRecDepth 20000 in
set_option maxHeartbeats 4000000 in
theorem S_X7_minute {d : Nat} (hd : 1 ≤ d) {a0 : Option Nat} {h : MH} {r : Int32} {hz : MH} (hK : F_X7_minute a0 h = some (r, hz)) : mm_M yX7_minute cX7_minute 1 (some .int) d [va_rf a0] h (.inr (some (.int r))) hz := by
  refine mm_ofV (by decide +kernel) (by simp [lg_sl, mm_crf, mm_cti, mm_ctl]) (fun V C => ?_)
  rw [show lv_args 0 [va_rf a0] = [(0, va_rf a0)] by simp [lv_args, mm_crf, mm_cti, mm_ctl]]
  unfold F_X7_minute at hK
  refine mm_aload_n C (pc := 0) 0 dX7_minute_0 rfl ?_
  replace hK := mm_bd hK; obtain ⟨v1, e1, hK⟩ := hK
  refine mm_geti C (pc := 1) (k := 9) inGX7 rfl (by decide) wd_360 dX7_minute_1 e1 ?_
  cases hK
  exact mm_iret C (pc := 4) rfl dX7_minute_4 rfl rfl
def F_X7_calls (a0 : Option Nat) (h : MH) : Option (Int32 × MH) := (gI h a0 7 8).bind fun v1 => some (v1, h)
set_option maxRecDepth 20000 in
set_option maxHeartbeats 4000000 in
theorem S_X7_calls {d : Nat} (hd : 1 ≤ d) {a0 : Option Nat} {h : MH} {r : Int32} {hz : MH} (hK : F_X7_calls a0 h = some (r, hz)) : mm_M yX7_calls cX7_calls 1 (some .int) d [va_rf a0] h (.inr (some (.int r))) hz := by
  refine mm_ofV (by decide +kernel) (by simp [lg_sl, mm_crf, mm_cti, mm_ctl]) (fun V C => ?_)
  rw [show lv_args 0 [va_rf a0] = [(0, va_rf a0)] by simp [lv_args, mm_crf, mm_cti, mm_ctl]]
  unfold F_X7_calls at hK
  refine mm_aload_n C (pc := 0) 0 dX7_calls_0 rfl ?_
  replace hK := mm_bd hK; obtain ⟨v1, e1, hK⟩ := hK
  refine mm_geti C (pc := 1) (k := 8) inGX7 rfl (by decide) wd_359 dX7_calls_1 e1 ?_
  cases hK
  exact mm_iret C (pc := 4) rfl dX7_calls_4 rfl rfl
def F_X7_toldOf_51 (s0 : Int32) (h : MH) : Option (Int32 × MH) := some (s0, h)
set_option maxRecDepth 20000 in
set_option maxHeartbeats 4000000 in
theorem w_X7_toldOf_51 {d : Nat} {V : Nat → List (Nat × Value) → List Value → MH → Prop} {r : Int32} {hz : MH} (hd : 1 ≤ d) (C : mm_C d yX7_toldOf cX7_toldOf 4 (some .int) (.inr (some (.int r))) hz V) (s0 : Int32) (h : MH) (hK : F_X7_toldOf_51 s0 h = some (r, hz)) : V 51 [] [.int s0] h := by
  unfold F_X7_toldOf_51 at hK
  cases hK
  exact mm_iret C (pc := 51) rfl dX7_toldOf_51 rfl rfl
def F_X7_toldOf_32 (l0 : Option Nat) (l1 : Int32) (l2 : Int32) (s0 : Int32) (h : MH) : Option (Int32 × MH) := if s0 = 0 then (F_X7_toldOf_51 (0 : Int32) h) else ((gR h l0 7 2).bind fun v38 => (aI h v38 0 ((l1 * (4 : Int32)) + l2)).bind fun v46 => F_X7_toldOf_51 v46 h)
set_option maxRecDepth 20000 in
set_option maxHeartbeats 4000000 in
theorem w_X7_toldOf_32 {d : Nat} {V : Nat → List (Nat × Value) → List Value → MH → Prop} {r : Int32} {hz : MH} (hd : 1 ≤ d) (C : mm_C d yX7_toldOf cX7_toldOf 4 (some .int) (.inr (some (.int r))) hz V) (l0 : Option Nat) (l1 : Int32) (l2 : Int32) (s0 : Int32) (h : MH) (hK : F_X7_toldOf_32 l0 l1 l2 s0 h = some (r, hz)) : V 32 [(0, va_rf l0), (1, .int l1), (2, .int l2)] [.int s0] h := by
  unfold F_X7_toldOf_32 at hK
  refine mm_istore_n C (pc := 32) (i := 3) (lv' := [(3, .int s0), (0, va_rf l0), (1, .int l1), (2, .int l2)]) dX7_toldOf_32 rfl (by decide) rfl ?_
  refine mm_iload_n C (pc := 33) 0 dX7_toldOf_33 rfl ?_
  refine mm_if_eq C (pc := 34) (tgt := 50) dX7_toldOf_34 (by decide) (fun hc => ?_) (fun hc => ?_)
  · replace hK := mm_ip hc hK
    refine mm_iconst C (pc := 50) (v := (0 : Int32)) dX7_toldOf_50 (by decide) ?_
    refine mm_sub C [] rfl ?_
    exact w_X7_toldOf_51 hd C _ _ hK
  · replace hK := mm_in hc hK
    refine mm_aload_n C (pc := 37) 1 dX7_toldOf_37 rfl ?_
    replace hK := mm_bd hK; obtain ⟨v38, e38, hK⟩ := hK
    refine mm_getr C (pc := 38) (k := 2) inGX7 rfl (by decide) wd_353 dX7_toldOf_38 e38 ?_
    refine mm_iload_n C (pc := 41) 2 dX7_toldOf_41 rfl ?_
    refine mm_iconst C (pc := 42) (v := (4 : Int32)) dX7_toldOf_42 (by decide) ?_
    refine mm_imul C (pc := 43) dX7_toldOf_43 ?_
    refine mm_iload_n C (pc := 44) 3 dX7_toldOf_44 rfl ?_
    refine mm_iadd C (pc := 45) dX7_toldOf_45 ?_
    replace hK := mm_bd hK; obtain ⟨v46, e46, hK⟩ := hK
    refine mm_iald C (pc := 46) dX7_toldOf_46 e46 ?_
    refine mm_goto C (pc := 47) (tgt := 51) dX7_toldOf_47 (by decide) ?_
    refine mm_sub C [] rfl ?_
    exact w_X7_toldOf_51 hd C _ _ hK
def F_X7_toldOf_31 (l0 : Option Nat) (l1 : Int32) (l2 : Int32) (h : MH) : Option (Int32 × MH) := F_X7_toldOf_32 l0 l1 l2 (0 : Int32) h
set_option maxRecDepth 20000 in
set_option maxHeartbeats 4000000 in
theorem w_X7_toldOf_31 {d : Nat} {V : Nat → List (Nat × Value) → List Value → MH → Prop} {r : Int32} {hz : MH} (hd : 1 ≤ d) (C : mm_C d yX7_toldOf cX7_toldOf 4 (some .int) (.inr (some (.int r))) hz V) (l0 : Option Nat) (l1 : Int32) (l2 : Int32) (h : MH) (hK : F_X7_toldOf_31 l0 l1 l2 h = some (r, hz)) : V 31 [(0, va_rf l0), (1, .int l1), (2, .int l2)] [] h := by
  unfold F_X7_toldOf_31 at hK
  refine mm_iconst C (pc := 31) (v := (0 : Int32)) dX7_toldOf_31 (by decide) ?_
  exact w_X7_toldOf_32 hd C _ _ _ _ _ hK
def F_X7_toldOf (a0 : Option Nat) (a1 : Int32) (a2 : Int32) (h : MH) : Option (Int32 × MH) := if a1 < 0 then (F_X7_toldOf_31 a0 a1 a2 h) else ((gI h a0 7 8).bind fun v6 => if v6 ≤ a1 then (F_X7_toldOf_31 a0 a1 a2 h) else (if (10 : Int32) ≤ a1 then (F_X7_toldOf_31 a0 a1 a2 h) else (if a2 < 0 then (F_X7_toldOf_31 a0 a1 a2 h) else (if (4 : Int32) ≤ a2 then (F_X7_toldOf_31 a0 a1 a2 h) else (F_X7_toldOf_32 a0 a1 a2 (1 : Int32) h)))))
set_option maxRecDepth 20000 in
set_option maxHeartbeats 4000000 in
theorem S_X7_toldOf {d : Nat} (hd : 1 ≤ d) {a0 : Option Nat} {a1 : Int32} {a2 : Int32} {h : MH} {r : Int32} {hz : MH} (hK : F_X7_toldOf a0 a1 a2 h = some (r, hz)) : mm_M yX7_toldOf cX7_toldOf 4 (some .int) d [va_rf a0, .int a1, .int a2] h (.inr (some (.int r))) hz := by
  refine mm_ofV (by decide +kernel) (by simp [lg_sl, mm_crf, mm_cti, mm_ctl]) (fun V C => ?_)
  rw [show lv_args 0 [va_rf a0, .int a1, .int a2] = [(0, va_rf a0), (1, .int a1), (2, .int a2)] by simp [lv_args, mm_crf, mm_cti, mm_ctl]]
  unfold F_X7_toldOf at hK
  refine mm_iload_n C (pc := 0) 1 dX7_toldOf_0 rfl ?_
  refine mm_if_lt C (pc := 1) (tgt := 31) dX7_toldOf_1 (by decide) (fun hc => ?_) (fun hc => ?_)
  · replace hK := mm_ip hc hK
    exact w_X7_toldOf_31 hd C _ _ _ _ hK
  · replace hK := mm_in hc hK
    refine mm_iload_n C (pc := 4) 1 dX7_toldOf_4 rfl ?_
    refine mm_aload_n C (pc := 5) 0 dX7_toldOf_5 rfl ?_
    replace hK := mm_bd hK; obtain ⟨v6, e6, hK⟩ := hK
    refine mm_geti C (pc := 6) (k := 8) inGX7 rfl (by decide) wd_359 dX7_toldOf_6 e6 ?_
    refine mm_icmp_ge C (pc := 9) (tgt := 31) dX7_toldOf_9 (by decide) (fun hc => ?_) (fun hc => ?_)
    · replace hK := mm_ip hc hK
      exact w_X7_toldOf_31 hd C _ _ _ _ hK
    · replace hK := mm_in hc hK
      refine mm_iload_n C (pc := 12) 1 dX7_toldOf_12 rfl ?_
      refine mm_bipush C (pc := 13) (v := (10 : Int32)) dX7_toldOf_13 (by decide) ?_
      refine mm_icmp_ge C (pc := 15) (tgt := 31) dX7_toldOf_15 (by decide) (fun hc => ?_) (fun hc => ?_)
      · replace hK := mm_ip hc hK
        exact w_X7_toldOf_31 hd C _ _ _ _ hK
      · replace hK := mm_in hc hK
        refine mm_iload_n C (pc := 18) 2 dX7_toldOf_18 rfl ?_
        refine mm_if_lt C (pc := 19) (tgt := 31) dX7_toldOf_19 (by decide) (fun hc => ?_) (fun hc => ?_)
        · replace hK := mm_ip hc hK
          exact w_X7_toldOf_31 hd C _ _ _ _ hK
        · replace hK := mm_in hc hK
          refine mm_iload_n C (pc := 22) 2 dX7_toldOf_22 rfl ?_
          refine mm_iconst C (pc := 23) (v := (4 : Int32)) dX7_toldOf_23 (by decide) ?_
          refine mm_icmp_ge C (pc := 24) (tgt := 31) dX7_toldOf_24 (by decide) (fun hc => ?_) (fun hc => ?_)
          · replace hK := mm_ip hc hK
            exact w_X7_toldOf_31 hd C _ _ _ _ hK
          · replace hK := mm_in hc hK
            refine mm_iconst C (pc := 27) (v := (1 : Int32)) dX7_toldOf_27 (by decide) ?_
            refine mm_goto C (pc := 28) (tgt := 32) dX7_toldOf_28 (by decide) ?_
            exact w_X7_toldOf_32 hd C _ _ _ _ _ hK
def F_X0_calls (a0 : Option Nat) (h : MH) : Option (Int32 × MH) := (gR h a0 0 0).bind fun v1 => (aI h v1 0 (1 : Int32)).bind fun v5 => some (v5, h)
set_option maxRecDepth 20000 in
set_option maxHeartbeats 4000000 in
theorem S_X0_calls {d : Nat} (hd : 1 ≤ d) {a0 : Option Nat} {h : MH} {r : Int32} {hz : MH} (hK : F_X0_calls a0 h = some (r, hz)) : mm_M yX0_calls cX0_calls 1 (some .int) d [va_rf a0] h (.inr (some (.int r))) hz := by
  refine mm_ofV (by decide +kernel) (by simp [lg_sl, mm_crf, mm_cti, mm_ctl]) (fun V C => ?_)
  rw [show lv_args 0 [va_rf a0] = [(0, va_rf a0)] by simp [lv_args, mm_crf, mm_cti, mm_ctl]]
  unfold F_X0_calls at hK
  refine mm_aload_n C (pc := 0) 0 dX0_calls_0 rfl ?_
  replace hK := mm_bd hK; obtain ⟨v1, e1, hK⟩ := hK
  refine mm_getr C (pc := 1) (k := 0) inGX0 rfl (by decide) wd_816 dX0_calls_1 e1 ?_
  refine mm_iconst C (pc := 4) (v := (1 : Int32)) dX0_calls_4 (by decide) ?_
  replace hK := mm_bd hK; obtain ⟨v5, e5, hK⟩ := hK
  refine mm_iald C (pc := 5) dX0_calls_5 e5 ?_
  cases hK
  exact mm_iret C (pc := 6) rfl dX0_calls_6 rfl rfl
def F_X0_setFact_45 (h : MH) : Option MH := some h
set_option maxRecDepth 20000 in
set_option maxHeartbeats 4000000 in
theorem w_X0_setFact_45 {d : Nat} {V : Nat → List (Nat × Value) → List Value → MH → Prop} {hz : MH} (hd : 1 ≤ d) (C : mm_C d yX0_setFact cX0_setFact 4 none (.inr none) hz V) (h : MH) (hK : F_X0_setFact_45  h = some hz) : V 45 [] [] h := by
  unfold F_X0_setFact_45 at hK
  cases hK
  exact mm_vret C (pc := 45) rfl dX0_setFact_45 rfl rfl
def F_X0_setFact (a0 : Option Nat) (a1 : Int32) (a2 : Int32) (a3 : Int32) (h : MH) : Option MH := if a1 < 0 then (F_X0_setFact_45 h) else ((gR h a0 0 0).bind fun v6 => (aI h v6 0 (1 : Int32)).bind fun v10 => if v10 ≤ a1 then (F_X0_setFact_45 h) else (if (10 : Int32) ≤ a1 then (F_X0_setFact_45 h) else (if a2 < 0 then (F_X0_setFact_45 h) else (if (7 : Int32) ≤ a2 then (F_X0_setFact_45 h) else ((gR h a0 0 0).bind fun v31 => (sI h v31 0 (((11 : Int32) + (a1 * (7 : Int32))) + a2) a3).bind fun h44 => F_X0_setFact_45 h44)))))
set_option maxRecDepth 20000 in
set_option maxHeartbeats 4000000 in
theorem S_X0_setFact {d : Nat} (hd : 1 ≤ d) {a0 : Option Nat} {a1 : Int32} {a2 : Int32} {a3 : Int32} {h : MH} {hz : MH} (hK : F_X0_setFact a0 a1 a2 a3 h = some hz) : mm_M yX0_setFact cX0_setFact 4 none d [va_rf a0, .int a1, .int a2, .int a3] h (.inr none) hz := by
  refine mm_ofV (by decide +kernel) (by simp [lg_sl, mm_crf, mm_cti, mm_ctl]) (fun V C => ?_)
  rw [show lv_args 0 [va_rf a0, .int a1, .int a2, .int a3] = [(0, va_rf a0), (1, .int a1), (2, .int a2), (3, .int a3)] by simp [lv_args, mm_crf, mm_cti, mm_ctl]]
  unfold F_X0_setFact at hK
  refine mm_iload_n C (pc := 0) 1 dX0_setFact_0 rfl ?_
  refine mm_if_lt C (pc := 1) (tgt := 45) dX0_setFact_1 (by decide) (fun hc => ?_) (fun hc => ?_)
  · replace hK := mm_ip hc hK
    refine mm_sub C [] rfl ?_
    exact w_X0_setFact_45 hd C _ hK
  · replace hK := mm_in hc hK
    refine mm_iload_n C (pc := 4) 1 dX0_setFact_4 rfl ?_
    refine mm_aload_n C (pc := 5) 0 dX0_setFact_5 rfl ?_
    replace hK := mm_bd hK; obtain ⟨v6, e6, hK⟩ := hK
    refine mm_getr C (pc := 6) (k := 0) inGX0 rfl (by decide) wd_816 dX0_setFact_6 e6 ?_
    refine mm_iconst C (pc := 9) (v := (1 : Int32)) dX0_setFact_9 (by decide) ?_
    replace hK := mm_bd hK; obtain ⟨v10, e10, hK⟩ := hK
    refine mm_iald C (pc := 10) dX0_setFact_10 e10 ?_
    refine mm_icmp_ge C (pc := 11) (tgt := 45) dX0_setFact_11 (by decide) (fun hc => ?_) (fun hc => ?_)
    · replace hK := mm_ip hc hK
      refine mm_sub C [] rfl ?_
      exact w_X0_setFact_45 hd C _ hK
    · replace hK := mm_in hc hK
      refine mm_iload_n C (pc := 14) 1 dX0_setFact_14 rfl ?_
      refine mm_bipush C (pc := 15) (v := (10 : Int32)) dX0_setFact_15 (by decide) ?_
      refine mm_icmp_ge C (pc := 17) (tgt := 45) dX0_setFact_17 (by decide) (fun hc => ?_) (fun hc => ?_)
      · replace hK := mm_ip hc hK
        refine mm_sub C [] rfl ?_
        exact w_X0_setFact_45 hd C _ hK
      · replace hK := mm_in hc hK
        refine mm_iload_n C (pc := 20) 2 dX0_setFact_20 rfl ?_
        refine mm_if_lt C (pc := 21) (tgt := 45) dX0_setFact_21 (by decide) (fun hc => ?_) (fun hc => ?_)
        · replace hK := mm_ip hc hK
          refine mm_sub C [] rfl ?_
          exact w_X0_setFact_45 hd C _ hK
        · replace hK := mm_in hc hK
          refine mm_iload_n C (pc := 24) 2 dX0_setFact_24 rfl ?_
          refine mm_bipush C (pc := 25) (v := (7 : Int32)) dX0_setFact_25 (by decide) ?_
          refine mm_icmp_ge C (pc := 27) (tgt := 45) dX0_setFact_27 (by decide) (fun hc => ?_) (fun hc => ?_)
          · replace hK := mm_ip hc hK
            refine mm_sub C [] rfl ?_
            exact w_X0_setFact_45 hd C _ hK
          · replace hK := mm_in hc hK
            refine mm_aload_n C (pc := 30) 0 dX0_setFact_30 rfl ?_
            replace hK := mm_bd hK; obtain ⟨v31, e31, hK⟩ := hK
            refine mm_getr C (pc := 31) (k := 0) inGX0 rfl (by decide) wd_816 dX0_setFact_31 e31 ?_
            refine mm_bipush C (pc := 34) (v := (11 : Int32)) dX0_setFact_34 (by decide) ?_
            refine mm_iload_n C (pc := 36) 1 dX0_setFact_36 rfl ?_
            refine mm_bipush C (pc := 37) (v := (7 : Int32)) dX0_setFact_37 (by decide) ?_
            refine mm_imul C (pc := 39) dX0_setFact_39 ?_
            refine mm_iadd C (pc := 40) dX0_setFact_40 ?_
            refine mm_iload_n C (pc := 41) 2 dX0_setFact_41 rfl ?_
            refine mm_iadd C (pc := 42) dX0_setFact_42 ?_
            refine mm_iload_n C (pc := 43) 3 dX0_setFact_43 rfl ?_
            replace hK := mm_bd hK; obtain ⟨h44, e44, hK⟩ := hK
            refine mm_iast C (pc := 44) dX0_setFact_44 e44 ?_
            refine mm_sub C [] rfl ?_
            exact w_X0_setFact_45 hd C _ hK
def F_X0_minute (a0 : Option Nat) (h : MH) : Option (Int32 × MH) := (gR h a0 0 0).bind fun v1 => (aI h v1 0 (0 : Int32)).bind fun v5 => some (v5, h)
set_option maxRecDepth 20000 in
set_option maxHeartbeats 4000000 in
theorem S_X0_minute {d : Nat} (hd : 1 ≤ d) {a0 : Option Nat} {h : MH} {r : Int32} {hz : MH} (hK : F_X0_minute a0 h = some (r, hz)) : mm_M yX0_minute cX0_minute 1 (some .int) d [va_rf a0] h (.inr (some (.int r))) hz := by
  refine mm_ofV (by decide +kernel) (by simp [lg_sl, mm_crf, mm_cti, mm_ctl]) (fun V C => ?_)
  rw [show lv_args 0 [va_rf a0] = [(0, va_rf a0)] by simp [lv_args, mm_crf, mm_cti, mm_ctl]]
  unfold F_X0_minute at hK
  refine mm_aload_n C (pc := 0) 0 dX0_minute_0 rfl ?_
  replace hK := mm_bd hK; obtain ⟨v1, e1, hK⟩ := hK
  refine mm_getr C (pc := 1) (k := 0) inGX0 rfl (by decide) wd_816 dX0_minute_1 e1 ?_
  refine mm_iconst C (pc := 4) (v := (0 : Int32)) dX0_minute_4 (by decide) ?_
  replace hK := mm_bd hK; obtain ⟨v5, e5, hK⟩ := hK
  refine mm_iald C (pc := 5) dX0_minute_5 e5 ?_
  cases hK
  exact mm_iret C (pc := 6) rfl dX0_minute_6 rfl rfl
theorem wd_921 : Cond.code yX0_calls cX0_calls 1 (some .int) ∈ lw_good := mm_wd 921 (by decide +kernel) (by decide +kernel)
theorem tT_X0_calls : mm_T yX0_calls cX0_calls 1 (some .int) 0 := ⟨wd_921, wd_150, by decide +kernel, by decide +kernel, by decide +kernel, by decide +kernel⟩
theorem wd_918 : Cond.methodLink RX0 67 yX0_calls ∈ lw_good := mm_wd 918 (by decide +kernel) (by decide +kernel)
theorem wd_919 : Cond.instanceMethod yX0_calls ∈ lw_good := mm_wd 919 (by decide +kernel) (by decide +kernel)
theorem wd_920 : Cond.selects RX0 yX0_calls yX0_calls ∈ lw_good := mm_wd 920 (by decide +kernel) (by decide +kernel)
theorem wd_947 : Cond.code yX0_setFact cX0_setFact 4 none ∈ lw_good := mm_wd 947 (by decide +kernel) (by decide +kernel)
theorem tT_X0_setFact : mm_T yX0_setFact cX0_setFact 4 none 3 := ⟨wd_947, wd_150, by decide +kernel, by decide +kernel, by decide +kernel, by decide +kernel⟩
theorem wd_944 : Cond.methodLink RX0 105 yX0_setFact ∈ lw_good := mm_wd 944 (by decide +kernel) (by decide +kernel)
theorem wd_946 : Cond.instanceMethod yX0_setFact ∈ lw_good := mm_wd 946 (by decide +kernel) (by decide +kernel)
theorem wd_6 : Cond.selects RX0 yX0_setFact yX0_setFact ∈ lw_good := mm_wd 6 (by decide +kernel) (by decide +kernel)
theorem wd_939 : Cond.code yX0_minute cX0_minute 1 (some .int) ∈ lw_good := mm_wd 939 (by decide +kernel) (by decide +kernel)
theorem tT_X0_minute : mm_T yX0_minute cX0_minute 1 (some .int) 0 := ⟨wd_939, wd_150, by decide +kernel, by decide +kernel, by decide +kernel, by decide +kernel⟩
theorem wd_936 : Cond.methodLink RX0 109 yX0_minute ∈ lw_good := mm_wd 936 (by decide +kernel) (by decide +kernel)
theorem wd_937 : Cond.instanceMethod yX0_minute ∈ lw_good := mm_wd 937 (by decide +kernel) (by decide +kernel)
theorem wd_938 : Cond.selects RX0 yX0_minute yX0_minute ∈ lw_good := mm_wd 938 (by decide +kernel) (by decide +kernel)
def F_X0_addCall_77 (l0 : Option Nat) (l5 : Int32) (s0 : Int32) (s1 : Int32) (s2 : Int32) (s3 : Option Nat) (h : MH) : Option (Int32 × MH) := (cV h s3 0 (F_X0_setFact s3 s2 s1 s0 h)).bind fun h77 => (cV h77 l0 0 (F_X0_setFact l0 l5 (5 : Int32) ((-1) : Int32) h77)).bind fun h85 => (cV h85 l0 0 (F_X0_setFact l0 l5 (6 : Int32) ((-1) : Int32) h85)).bind fun h94 => some (l5, h94)
set_option maxRecDepth 20000 in
set_option maxHeartbeats 4000000 in
theorem w_X0_addCall_77 {d : Nat} {V : Nat → List (Nat × Value) → List Value → MH → Prop} {r : Int32} {hz : MH} (hd : 2 ≤ d) (C : mm_C d yX0_addCall cX0_addCall 6 (some .int) (.inr (some (.int r))) hz V) (l0 : Option Nat) (l5 : Int32) (s0 : Int32) (s1 : Int32) (s2 : Int32) (s3 : Option Nat) (h : MH) (hK : F_X0_addCall_77 l0 l5 s0 s1 s2 s3 h = some (r, hz)) : V 77 [(0, va_rf l0), (5, .int l5)] [.int s0, .int s1, .int s2, va_rf s3] h := by
  unfold F_X0_addCall_77 at hK
  replace hK := mm_bd hK; obtain ⟨h77, e77, hK⟩ := hK
  obtain ⟨o77, e77⟩ := cV_some e77
  refine mm_callV C (pc := 77) (d1 := 1) (As := [.int s2, .int s1, .int s0]) (st := []) (vk := none) ((S_X0_setFact (by omega)) e77) tT_X0_setFact o77 (Or.inr ⟨_, rfl, rfl⟩) wd_944 wd_946 wd_6 (by omega) (by decide) rfl (by simp [mm_crf, mm_cti, mm_ctl]) rfl dX0_addCall_77 ?_
  show V _ _ [] _
  refine mm_aload_n C (pc := 80) 0 dX0_addCall_80 rfl ?_
  refine mm_iload C (pc := 81) 1 dX0_addCall_81 rfl ?_
  refine mm_iconst C (pc := 83) (v := (5 : Int32)) dX0_addCall_83 (by decide) ?_
  refine mm_iconst C (pc := 84) (v := ((-1) : Int32)) dX0_addCall_84 (by decide) ?_
  replace hK := mm_bd hK; obtain ⟨h85, e85, hK⟩ := hK
  obtain ⟨o85, e85⟩ := cV_some e85
  refine mm_callV C (pc := 85) (d1 := 1) (As := [.int l5, .int (5 : Int32), .int ((-1) : Int32)]) (st := []) (vk := none) ((S_X0_setFact (by omega)) e85) tT_X0_setFact o85 (Or.inr ⟨_, rfl, rfl⟩) wd_944 wd_946 wd_6 (by omega) (by decide) rfl (by simp [mm_crf, mm_cti, mm_ctl]) rfl dX0_addCall_85 ?_
  show V _ _ [] _
  refine mm_aload_n C (pc := 88) 0 dX0_addCall_88 rfl ?_
  refine mm_iload C (pc := 89) 1 dX0_addCall_89 rfl ?_
  refine mm_bipush C (pc := 91) (v := (6 : Int32)) dX0_addCall_91 (by decide) ?_
  refine mm_iconst C (pc := 93) (v := ((-1) : Int32)) dX0_addCall_93 (by decide) ?_
  replace hK := mm_bd hK; obtain ⟨h94, e94, hK⟩ := hK
  obtain ⟨o94, e94⟩ := cV_some e94
  refine mm_callV C (pc := 94) (d1 := 1) (As := [.int l5, .int (6 : Int32), .int ((-1) : Int32)]) (st := []) (vk := none) ((S_X0_setFact (by omega)) e94) tT_X0_setFact o94 (Or.inr ⟨_, rfl, rfl⟩) wd_944 wd_946 wd_6 (by omega) (by decide) rfl (by simp [mm_crf, mm_cti, mm_ctl]) rfl dX0_addCall_94 ?_
  show V _ _ [] _
  refine mm_iload C (pc := 97) 1 dX0_addCall_97 rfl ?_
  cases hK
  exact mm_iret C (pc := 99) rfl dX0_addCall_99 rfl rfl
def F_X0_addCall (a0 : Option Nat) (a1 : Int32) (a2 : Int32) (a3 : Int32) (a4 : Int32) (h : MH) : Option (Int32 × MH) := mm_b2 (cV h a0 0 (F_X0_calls a0 h)) fun v1 h1 => if v1 < (10 : Int32) then (mm_b2 (cV h1 a0 0 (F_X0_calls a0 h1)) fun v12 h12 => (gR h12 a0 0 0).bind fun v18 => (aI h12 v18 0 (1 : Int32)).bind fun v23 => (sI h12 v18 0 (1 : Int32) (v23 + (1 : Int32))).bind fun h26 => (cV h26 a0 0 (F_X0_setFact a0 v12 (0 : Int32) a1 h26)).bind fun h32 => (cV h32 a0 0 (F_X0_setFact a0 v12 (1 : Int32) a2 h32)).bind fun h40 => (cV h40 a0 0 (F_X0_setFact a0 v12 (2 : Int32) a3 h40)).bind fun h48 => (cV h48 a0 0 (F_X0_setFact a0 v12 (3 : Int32) a4 h48)).bind fun h57 => mm_b2 (cV h57 a0 0 (F_X0_minute a0 h57)) fun v66 h66 => if v66 ≤ a3 then (F_X0_addCall_77 a0 v12 (0 : Int32) (4 : Int32) v12 a0 h66) else (F_X0_addCall_77 a0 v12 (3 : Int32) (4 : Int32) v12 a0 h66)) else (some (((-1) : Int32), h1))
set_option maxRecDepth 20000 in
set_option maxHeartbeats 4000000 in
theorem S_X0_addCall {d : Nat} (hd : 2 ≤ d) {a0 : Option Nat} {a1 : Int32} {a2 : Int32} {a3 : Int32} {a4 : Int32} {h : MH} {r : Int32} {hz : MH} (hK : F_X0_addCall a0 a1 a2 a3 a4 h = some (r, hz)) : mm_M yX0_addCall cX0_addCall 6 (some .int) d [va_rf a0, .int a1, .int a2, .int a3, .int a4] h (.inr (some (.int r))) hz := by
  refine mm_ofV (by decide +kernel) (by simp [lg_sl, mm_crf, mm_cti, mm_ctl]) (fun V C => ?_)
  rw [show lv_args 0 [va_rf a0, .int a1, .int a2, .int a3, .int a4] = [(0, va_rf a0), (1, .int a1), (2, .int a2), (3, .int a3), (4, .int a4)] by simp [lv_args, mm_crf, mm_cti, mm_ctl]]
  unfold F_X0_addCall at hK
  refine mm_aload_n C (pc := 0) 0 dX0_addCall_0 rfl ?_
  replace hK := mm_b2s hK; obtain ⟨v1, h1, e1, hK⟩ := hK
  obtain ⟨o1, e1⟩ := cV_some e1
  refine mm_callV C (pc := 1) (d1 := 1) (As := []) (st := []) (vk := (some (.int v1))) ((S_X0_calls (by omega)) e1) tT_X0_calls o1 (Or.inr ⟨_, rfl, rfl⟩) wd_918 wd_919 wd_920 (by omega) (by decide) rfl (by simp [mm_crf, mm_cti, mm_ctl]) rfl dX0_addCall_1 ?_
  show V _ _ (.int v1 :: _) _
  refine mm_bipush C (pc := 4) (v := (10 : Int32)) dX0_addCall_4 (by decide) ?_
  refine mm_icmp_lt C (pc := 6) (tgt := 11) dX0_addCall_6 (by decide) (fun hc => ?_) (fun hc => ?_)
  · replace hK := mm_ip hc hK
    refine mm_aload_n C (pc := 11) 0 dX0_addCall_11 rfl ?_
    replace hK := mm_b2s hK; obtain ⟨v12, h12, e12, hK⟩ := hK
    obtain ⟨o12, e12⟩ := cV_some e12
    refine mm_callV C (pc := 12) (d1 := 1) (As := []) (st := []) (vk := (some (.int v12))) ((S_X0_calls (by omega)) e12) tT_X0_calls o12 (Or.inr ⟨_, rfl, rfl⟩) wd_918 wd_919 wd_920 (by omega) (by decide) rfl (by simp [mm_crf, mm_cti, mm_ctl]) rfl dX0_addCall_12 ?_
    show V _ _ (.int v12 :: _) _
    refine mm_istore C (pc := 15) (i := 5) (lv' := [(5, .int v12), (0, va_rf a0), (1, .int a1), (2, .int a2), (3, .int a3), (4, .int a4)]) dX0_addCall_15 (by decide) rfl ?_
    refine mm_aload_n C (pc := 17) 1 dX0_addCall_17 rfl ?_
    replace hK := mm_bd hK; obtain ⟨v18, e18, hK⟩ := hK
    refine mm_getr C (pc := 18) (k := 0) inGX0 rfl (by decide) wd_816 dX0_addCall_18 e18 ?_
    refine mm_iconst C (pc := 21) (v := (1 : Int32)) dX0_addCall_21 (by decide) ?_
    refine mm_dup2 C (pc := 22) dX0_addCall_22 rfl mm_crf ?_
    replace hK := mm_bd hK; obtain ⟨v23, e23, hK⟩ := hK
    refine mm_iald C (pc := 23) dX0_addCall_23 e23 ?_
    refine mm_iconst C (pc := 24) (v := (1 : Int32)) dX0_addCall_24 (by decide) ?_
    refine mm_iadd C (pc := 25) dX0_addCall_25 ?_
    replace hK := mm_bd hK; obtain ⟨h26, e26, hK⟩ := hK
    refine mm_iast C (pc := 26) dX0_addCall_26 e26 ?_
    refine mm_aload_n C (pc := 27) 1 dX0_addCall_27 rfl ?_
    refine mm_iload C (pc := 28) 0 dX0_addCall_28 rfl ?_
    refine mm_iconst C (pc := 30) (v := (0 : Int32)) dX0_addCall_30 (by decide) ?_
    refine mm_iload_n C (pc := 31) 2 dX0_addCall_31 rfl ?_
    replace hK := mm_bd hK; obtain ⟨h32, e32, hK⟩ := hK
    obtain ⟨o32, e32⟩ := cV_some e32
    refine mm_callV C (pc := 32) (d1 := 1) (As := [.int v12, .int (0 : Int32), .int a1]) (st := []) (vk := none) ((S_X0_setFact (by omega)) e32) tT_X0_setFact o32 (Or.inr ⟨_, rfl, rfl⟩) wd_944 wd_946 wd_6 (by omega) (by decide) rfl (by simp [mm_crf, mm_cti, mm_ctl]) rfl dX0_addCall_32 ?_
    show V _ _ [] _
    refine mm_aload_n C (pc := 35) 1 dX0_addCall_35 rfl ?_
    refine mm_iload C (pc := 36) 0 dX0_addCall_36 rfl ?_
    refine mm_iconst C (pc := 38) (v := (1 : Int32)) dX0_addCall_38 (by decide) ?_
    refine mm_iload_n C (pc := 39) 3 dX0_addCall_39 rfl ?_
    replace hK := mm_bd hK; obtain ⟨h40, e40, hK⟩ := hK
    obtain ⟨o40, e40⟩ := cV_some e40
    refine mm_callV C (pc := 40) (d1 := 1) (As := [.int v12, .int (1 : Int32), .int a2]) (st := []) (vk := none) ((S_X0_setFact (by omega)) e40) tT_X0_setFact o40 (Or.inr ⟨_, rfl, rfl⟩) wd_944 wd_946 wd_6 (by omega) (by decide) rfl (by simp [mm_crf, mm_cti, mm_ctl]) rfl dX0_addCall_40 ?_
    show V _ _ [] _
    refine mm_aload_n C (pc := 43) 1 dX0_addCall_43 rfl ?_
    refine mm_iload C (pc := 44) 0 dX0_addCall_44 rfl ?_
    refine mm_iconst C (pc := 46) (v := (2 : Int32)) dX0_addCall_46 (by decide) ?_
    refine mm_iload_n C (pc := 47) 4 dX0_addCall_47 rfl ?_
    replace hK := mm_bd hK; obtain ⟨h48, e48, hK⟩ := hK
    obtain ⟨o48, e48⟩ := cV_some e48
    refine mm_callV C (pc := 48) (d1 := 1) (As := [.int v12, .int (2 : Int32), .int a3]) (st := []) (vk := none) ((S_X0_setFact (by omega)) e48) tT_X0_setFact o48 (Or.inr ⟨_, rfl, rfl⟩) wd_944 wd_946 wd_6 (by omega) (by decide) rfl (by simp [mm_crf, mm_cti, mm_ctl]) rfl dX0_addCall_48 ?_
    show V _ _ [] _
    refine mm_aload_n C (pc := 51) 1 dX0_addCall_51 rfl ?_
    refine mm_iload C (pc := 52) 0 dX0_addCall_52 rfl ?_
    refine mm_iconst C (pc := 54) (v := (3 : Int32)) dX0_addCall_54 (by decide) ?_
    refine mm_iload C (pc := 55) 5 dX0_addCall_55 rfl ?_
    replace hK := mm_bd hK; obtain ⟨h57, e57, hK⟩ := hK
    obtain ⟨o57, e57⟩ := cV_some e57
    refine mm_callV C (pc := 57) (d1 := 1) (As := [.int v12, .int (3 : Int32), .int a4]) (st := []) (vk := none) ((S_X0_setFact (by omega)) e57) tT_X0_setFact o57 (Or.inr ⟨_, rfl, rfl⟩) wd_944 wd_946 wd_6 (by omega) (by decide) rfl (by simp [mm_crf, mm_cti, mm_ctl]) rfl dX0_addCall_57 ?_
    show V _ _ [] _
    refine mm_aload_n C (pc := 60) 1 dX0_addCall_60 rfl ?_
    refine mm_iload C (pc := 61) 0 dX0_addCall_61 rfl ?_
    refine mm_iconst C (pc := 63) (v := (4 : Int32)) dX0_addCall_63 (by decide) ?_
    refine mm_iload_n C (pc := 64) 4 dX0_addCall_64 rfl ?_
    refine mm_aload_n C (pc := 65) 1 dX0_addCall_65 rfl ?_
    replace hK := mm_b2s hK; obtain ⟨v66, h66, e66, hK⟩ := hK
    obtain ⟨o66, e66⟩ := cV_some e66
    refine mm_callV C (pc := 66) (d1 := 1) (As := []) (st := [.int a3, .int (4 : Int32), .int v12, va_rf a0]) (vk := (some (.int v66))) ((S_X0_minute (by omega)) e66) tT_X0_minute o66 (Or.inr ⟨_, rfl, rfl⟩) wd_936 wd_937 wd_938 (by omega) (by decide) rfl (by simp [mm_crf, mm_cti, mm_ctl]) rfl dX0_addCall_66 ?_
    show V _ _ (.int v66 :: _) _
    refine mm_icmp_ge C (pc := 69) (tgt := 76) dX0_addCall_69 (by decide) (fun hc => ?_) (fun hc => ?_)
    · replace hK := mm_ip hc hK
      refine mm_iconst C (pc := 76) (v := (0 : Int32)) dX0_addCall_76 (by decide) ?_
      refine mm_sub C [1, 0] rfl ?_
      exact w_X0_addCall_77 hd C _ _ _ _ _ _ _ hK
    · replace hK := mm_in hc hK
      refine mm_iconst C (pc := 72) (v := (3 : Int32)) dX0_addCall_72 (by decide) ?_
      refine mm_goto C (pc := 73) (tgt := 77) dX0_addCall_73 (by decide) ?_
      refine mm_sub C [1, 0] rfl ?_
      exact w_X0_addCall_77 hd C _ _ _ _ _ _ _ hK
  · replace hK := mm_in hc hK
    refine mm_iconst C (pc := 9) (v := ((-1) : Int32)) dX0_addCall_9 (by decide) ?_
    cases hK
    exact mm_iret C (pc := 10) rfl dX0_addCall_10 rfl rfl
theorem wd_1409 : Cond.code yX7_minute cX7_minute 1 (some .int) ∈ lw_good := mm_wd 1409 (by decide +kernel) (by decide +kernel)
theorem tT_X7_minute : mm_T yX7_minute cX7_minute 1 (some .int) 0 := ⟨wd_1409, wd_148, by decide +kernel, by decide +kernel, by decide +kernel, by decide +kernel⟩
theorem wd_1406 : Cond.methodLink RX0 29 yX7_minute ∈ lw_good := mm_wd 1406 (by decide +kernel) (by decide +kernel)
theorem wd_1407 : Cond.instanceMethod yX7_minute ∈ lw_good := mm_wd 1407 (by decide +kernel) (by decide +kernel)
theorem wd_1408 : Cond.selects RX7 yX7_minute yX7_minute ∈ lw_good := mm_wd 1408 (by decide +kernel) (by decide +kernel)
theorem wd_1413 : Cond.code yX7_calls cX7_calls 1 (some .int) ∈ lw_good := mm_wd 1413 (by decide +kernel) (by decide +kernel)
theorem tT_X7_calls : mm_T yX7_calls cX7_calls 1 (some .int) 0 := ⟨wd_1413, wd_148, by decide +kernel, by decide +kernel, by decide +kernel, by decide +kernel⟩
theorem wd_1410 : Cond.methodLink RX0 35 yX7_calls ∈ lw_good := mm_wd 1410 (by decide +kernel) (by decide +kernel)
theorem wd_1411 : Cond.instanceMethod yX7_calls ∈ lw_good := mm_wd 1411 (by decide +kernel) (by decide +kernel)
theorem wd_1412 : Cond.selects RX7 yX7_calls yX7_calls ∈ lw_good := mm_wd 1412 (by decide +kernel) (by decide +kernel)
theorem wd_1417 : Cond.code yX7_toldOf cX7_toldOf 4 (some .int) ∈ lw_good := mm_wd 1417 (by decide +kernel) (by decide +kernel)
theorem tT_X7_toldOf : mm_T yX7_toldOf cX7_toldOf 4 (some .int) 2 := ⟨wd_1417, wd_148, by decide +kernel, by decide +kernel, by decide +kernel, by decide +kernel⟩
theorem wd_1414 : Cond.methodLink RX0 38 yX7_toldOf ∈ lw_good := mm_wd 1414 (by decide +kernel) (by decide +kernel)
theorem wd_1415 : Cond.instanceMethod yX7_toldOf ∈ lw_good := mm_wd 1415 (by decide +kernel) (by decide +kernel)
theorem wd_1416 : Cond.selects RX7 yX7_toldOf yX7_toldOf ∈ lw_good := mm_wd 1416 (by decide +kernel) (by decide +kernel)
theorem wd_943 : Cond.code yX0_addCall cX0_addCall 6 (some .int) ∈ lw_good := mm_wd 943 (by decide +kernel) (by decide +kernel)
theorem tT_X0_addCall : mm_T yX0_addCall cX0_addCall 6 (some .int) 4 := ⟨wd_943, wd_150, by decide +kernel, by decide +kernel, by decide +kernel, by decide +kernel⟩
theorem wd_940 : Cond.methodLink RX0 42 yX0_addCall ∈ lw_good := mm_wd 940 (by decide +kernel) (by decide +kernel)
theorem wd_942 : Cond.instanceMethod yX0_addCall ∈ lw_good := mm_wd 942 (by decide +kernel) (by decide +kernel)
theorem wd_5 : Cond.selects RX0 yX0_addCall yX0_addCall ∈ lw_good := mm_wd 5 (by decide +kernel) (by decide +kernel)
def F_X0_setUp_21 : Nat → Option Nat → Option Nat → Int32 → MH → Option MH
  | 0 => fun _ _ _ _ => none
  | n + 1 => fun l0 l2 l3 h => mm_b2 (cV h l2 7 (F_X7_calls l2 h)) fun v23 h23 => if v23 ≤ l3 then (some h23) else (mm_b2 (cV h23 l2 7 (F_X7_toldOf l2 l3 (0 : Int32) h23)) fun v33 h33 => mm_b2 (cV h33 l2 7 (F_X7_toldOf l2 l3 (1 : Int32) h33)) fun v39 h39 => mm_b2 (cV h39 l2 7 (F_X7_toldOf l2 l3 (2 : Int32) h39)) fun v45 h45 => mm_b2 (cV h45 l2 7 (F_X7_toldOf l2 l3 (3 : Int32) h45)) fun v51 h51 => mm_b2 (cV h51 l0 0 (F_X0_addCall l0 v33 v39 v45 v51 h51)) fun v54 h54 => F_X0_setUp_21 n l0 l2 (l3 + (1 : Int32)) h54)
set_option maxRecDepth 20000 in
set_option maxHeartbeats 4000000 in
theorem w_X0_setUp_21 {d : Nat} {V : Nat → List (Nat × Value) → List Value → MH → Prop} {hz : MH} (hd : 3 ≤ d) (C : mm_C d yX0_setUp cX0_setUp 4 none (.inr none) hz V) : ∀ (n : Nat) (l0 : Option Nat) (l2 : Option Nat) (l3 : Int32) (h : MH), F_X0_setUp_21 n l0 l2 l3 h = some hz → V 21 [(0, va_rf l0), (2, va_rf l2), (3, .int l3)] [] h := by
  intro n
  induction n with
  | zero => intro l0 l2 l3 h hK; cases hK
  | succ n ih =>
    intro l0 l2 l3 h hK
    replace hK : (mm_b2 (cV h l2 7 (F_X7_calls l2 h)) fun v23 h23 => if v23 ≤ l3 then (some h23) else (mm_b2 (cV h23 l2 7 (F_X7_toldOf l2 l3 (0 : Int32) h23)) fun v33 h33 => mm_b2 (cV h33 l2 7 (F_X7_toldOf l2 l3 (1 : Int32) h33)) fun v39 h39 => mm_b2 (cV h39 l2 7 (F_X7_toldOf l2 l3 (2 : Int32) h39)) fun v45 h45 => mm_b2 (cV h45 l2 7 (F_X7_toldOf l2 l3 (3 : Int32) h45)) fun v51 h51 => mm_b2 (cV h51 l0 0 (F_X0_addCall l0 v33 v39 v45 v51 h51)) fun v54 h54 => F_X0_setUp_21 n l0 l2 (l3 + (1 : Int32)) h54)) = some hz := hK
    refine mm_iload_n C (pc := 21) 2 dX0_setUp_21 rfl ?_
    refine mm_aload_n C (pc := 22) 1 dX0_setUp_22 rfl ?_
    replace hK := mm_b2s hK; obtain ⟨v23, h23, e23, hK⟩ := hK
    obtain ⟨o23, e23⟩ := cV_some e23
    refine mm_callV C (pc := 23) (d1 := 1) (As := []) (st := [.int l3]) (vk := (some (.int v23))) ((S_X7_calls (by omega)) e23) tT_X7_calls o23 (Or.inr ⟨_, rfl, rfl⟩) wd_1410 wd_1411 wd_1412 (by omega) (by decide) rfl (by simp [mm_crf, mm_cti, mm_ctl]) rfl dX0_setUp_23 ?_
    show V _ _ (.int v23 :: _) _
    refine mm_icmp_ge C (pc := 26) (tgt := 64) dX0_setUp_26 (by decide) (fun hc => ?_) (fun hc => ?_)
    · replace hK := mm_ip hc hK
      cases hK
      exact mm_vret C (pc := 64) rfl dX0_setUp_64 rfl rfl
    · replace hK := mm_in hc hK
      refine mm_aload_n C (pc := 29) 0 dX0_setUp_29 rfl ?_
      refine mm_aload_n C (pc := 30) 1 dX0_setUp_30 rfl ?_
      refine mm_iload_n C (pc := 31) 2 dX0_setUp_31 rfl ?_
      refine mm_iconst C (pc := 32) (v := (0 : Int32)) dX0_setUp_32 (by decide) ?_
      replace hK := mm_b2s hK; obtain ⟨v33, h33, e33, hK⟩ := hK
      obtain ⟨o33, e33⟩ := cV_some e33
      refine mm_callV C (pc := 33) (d1 := 1) (As := [.int l3, .int (0 : Int32)]) (st := [va_rf l0]) (vk := (some (.int v33))) ((S_X7_toldOf (by omega)) e33) tT_X7_toldOf o33 (Or.inr ⟨_, rfl, rfl⟩) wd_1414 wd_1415 wd_1416 (by omega) (by decide) rfl (by simp [mm_crf, mm_cti, mm_ctl]) rfl dX0_setUp_33 ?_
      show V _ _ (.int v33 :: _) _
      refine mm_aload_n C (pc := 36) 1 dX0_setUp_36 rfl ?_
      refine mm_iload_n C (pc := 37) 2 dX0_setUp_37 rfl ?_
      refine mm_iconst C (pc := 38) (v := (1 : Int32)) dX0_setUp_38 (by decide) ?_
      replace hK := mm_b2s hK; obtain ⟨v39, h39, e39, hK⟩ := hK
      obtain ⟨o39, e39⟩ := cV_some e39
      refine mm_callV C (pc := 39) (d1 := 1) (As := [.int l3, .int (1 : Int32)]) (st := [.int v33, va_rf l0]) (vk := (some (.int v39))) ((S_X7_toldOf (by omega)) e39) tT_X7_toldOf o39 (Or.inr ⟨_, rfl, rfl⟩) wd_1414 wd_1415 wd_1416 (by omega) (by decide) rfl (by simp [mm_crf, mm_cti, mm_ctl]) rfl dX0_setUp_39 ?_
      show V _ _ (.int v39 :: _) _
      refine mm_aload_n C (pc := 42) 1 dX0_setUp_42 rfl ?_
      refine mm_iload_n C (pc := 43) 2 dX0_setUp_43 rfl ?_
      refine mm_iconst C (pc := 44) (v := (2 : Int32)) dX0_setUp_44 (by decide) ?_
      replace hK := mm_b2s hK; obtain ⟨v45, h45, e45, hK⟩ := hK
      obtain ⟨o45, e45⟩ := cV_some e45
      refine mm_callV C (pc := 45) (d1 := 1) (As := [.int l3, .int (2 : Int32)]) (st := [.int v39, .int v33, va_rf l0]) (vk := (some (.int v45))) ((S_X7_toldOf (by omega)) e45) tT_X7_toldOf o45 (Or.inr ⟨_, rfl, rfl⟩) wd_1414 wd_1415 wd_1416 (by omega) (by decide) rfl (by simp [mm_crf, mm_cti, mm_ctl]) rfl dX0_setUp_45 ?_
      show V _ _ (.int v45 :: _) _
      refine mm_aload_n C (pc := 48) 1 dX0_setUp_48 rfl ?_
      refine mm_iload_n C (pc := 49) 2 dX0_setUp_49 rfl ?_
      refine mm_iconst C (pc := 50) (v := (3 : Int32)) dX0_setUp_50 (by decide) ?_
      replace hK := mm_b2s hK; obtain ⟨v51, h51, e51, hK⟩ := hK
      obtain ⟨o51, e51⟩ := cV_some e51
      refine mm_callV C (pc := 51) (d1 := 1) (As := [.int l3, .int (3 : Int32)]) (st := [.int v45, .int v39, .int v33, va_rf l0]) (vk := (some (.int v51))) ((S_X7_toldOf (by omega)) e51) tT_X7_toldOf o51 (Or.inr ⟨_, rfl, rfl⟩) wd_1414 wd_1415 wd_1416 (by omega) (by decide) rfl (by simp [mm_crf, mm_cti, mm_ctl]) rfl dX0_setUp_51 ?_
      show V _ _ (.int v51 :: _) _
      replace hK := mm_b2s hK; obtain ⟨v54, h54, e54, hK⟩ := hK
      obtain ⟨o54, e54⟩ := cV_some e54
      refine mm_callV C (pc := 54) (d1 := 2) (As := [.int v33, .int v39, .int v45, .int v51]) (st := []) (vk := (some (.int v54))) ((S_X0_addCall (by omega)) e54) tT_X0_addCall o54 (Or.inr ⟨_, rfl, rfl⟩) wd_940 wd_942 wd_5 (by omega) (by decide) rfl (by simp [mm_crf, mm_cti, mm_ctl]) rfl dX0_setUp_54 ?_
      show V _ _ (.int v54 :: _) _
      refine mm_pop C (pc := 57) dX0_setUp_57 rfl ?_
      refine mm_iinc C (pc := 58) (v := (l3 + (1 : Int32))) (lv' := [(3, .int (l3 + (1 : Int32))), (0, va_rf l0), (2, va_rf l2)]) 2 dX0_setUp_58 rfl rfl (by decide) (by simp [mm_crf]) ?_
      refine mm_goto C (pc := 61) (tgt := 21) dX0_setUp_61 (by decide) ?_
      refine mm_sub C [1, 2, 0] rfl ?_
      exact ih _ _ _ _ hK
def F_X0_setUp (a0 : Option Nat) (a1 : Option Nat) (a2 : Option Nat) (h : MH) : Option MH := (pR h a0 0 2 a1).bind fun h2 => (cV h2 a0 0 (F_X0_clear a0 h2)).bind fun h6 => (gR h6 a0 0 0).bind fun v10 => mm_b2 (cV h6 a2 7 (F_X7_minute a2 h6)) fun v15 h15 => (sI h15 v10 0 (0 : Int32) v15).bind fun h18 => F_X0_setUp_21 mm_N a0 a2 (0 : Int32) h18
set_option maxRecDepth 20000 in
set_option maxHeartbeats 4000000 in
theorem S_X0_setUp {d : Nat} (hd : 3 ≤ d) {a0 : Option Nat} {a1 : Option Nat} {a2 : Option Nat} {h : MH} {hz : MH} (hK : F_X0_setUp a0 a1 a2 h = some hz) : mm_M yX0_setUp cX0_setUp 4 none d [va_rf a0, va_rf a1, va_rf a2] h (.inr none) hz := by
  refine mm_ofV (by decide +kernel) (by simp [lg_sl, mm_crf, mm_cti, mm_ctl]) (fun V C => ?_)
  rw [show lv_args 0 [va_rf a0, va_rf a1, va_rf a2] = [(0, va_rf a0), (1, va_rf a1), (2, va_rf a2)] by simp [lv_args, mm_crf, mm_cti, mm_ctl]]
  unfold F_X0_setUp at hK
  refine mm_aload_n C (pc := 0) 0 dX0_setUp_0 rfl ?_
  refine mm_aload_n C (pc := 1) 1 dX0_setUp_1 rfl ?_
  replace hK := mm_bd hK; obtain ⟨h2, e2, hK⟩ := hK
  refine mm_putr C (pc := 2) (k := 2) false (fun z => by cases z) inGX0 tyX0 tyX0_ok nmX0 rfl (by decide) wd_818 rfl rfl dX0_setUp_2 e2 ?_
  refine mm_aload_n C (pc := 5) 0 dX0_setUp_5 rfl ?_
  replace hK := mm_bd hK; obtain ⟨h6, e6, hK⟩ := hK
  obtain ⟨o6, e6⟩ := cV_some e6
  refine mm_callV C (pc := 6) (d1 := 2) (As := []) (st := []) (vk := none) ((S_X0_clear (by omega)) e6) tT_X0_clear o6 (Or.inr ⟨_, rfl, rfl⟩) wd_809 wd_811 wd_2 (by omega) (by decide) rfl (by simp [mm_crf, mm_cti, mm_ctl]) rfl dX0_setUp_6 ?_
  show V _ _ [] _
  refine mm_aload_n C (pc := 9) 0 dX0_setUp_9 rfl ?_
  replace hK := mm_bd hK; obtain ⟨v10, e10, hK⟩ := hK
  refine mm_getr C (pc := 10) (k := 0) inGX0 rfl (by decide) wd_816 dX0_setUp_10 e10 ?_
  refine mm_iconst C (pc := 13) (v := (0 : Int32)) dX0_setUp_13 (by decide) ?_
  refine mm_aload_n C (pc := 14) 2 dX0_setUp_14 rfl ?_
  replace hK := mm_b2s hK; obtain ⟨v15, h15, e15, hK⟩ := hK
  obtain ⟨o15, e15⟩ := cV_some e15
  refine mm_callV C (pc := 15) (d1 := 1) (As := []) (st := [.int (0 : Int32), va_rf v10]) (vk := (some (.int v15))) ((S_X7_minute (by omega)) e15) tT_X7_minute o15 (Or.inr ⟨_, rfl, rfl⟩) wd_1406 wd_1407 wd_1408 (by omega) (by decide) rfl (by simp [mm_crf, mm_cti, mm_ctl]) rfl dX0_setUp_15 ?_
  show V _ _ (.int v15 :: _) _
  replace hK := mm_bd hK; obtain ⟨h18, e18, hK⟩ := hK
  refine mm_iast C (pc := 18) dX0_setUp_18 e18 ?_
  refine mm_iconst C (pc := 19) (v := (0 : Int32)) dX0_setUp_19 (by decide) ?_
  refine mm_istore_n C (pc := 20) (i := 3) (lv' := [(3, .int (0 : Int32)), (0, va_rf a0), (1, va_rf a1), (2, va_rf a2)]) dX0_setUp_20 rfl (by decide) (by simp [mm_crf]) ?_
  refine mm_sub C [1, 3, 0] rfl ?_
  exact w_X0_setUp_21 hd C _ _ _ _ _ hK
def F_X3_forget (a0 : Option Nat) (h : MH) : Option MH := (pI h a0 3 2 (0 : Int32)).bind fun h2 => some h2
set_option maxRecDepth 20000 in
set_option maxHeartbeats 4000000 in
theorem S_X3_forget {d : Nat} (hd : 1 ≤ d) {a0 : Option Nat} {h : MH} {hz : MH} (hK : F_X3_forget a0 h = some hz) : mm_M yX3_forget cX3_forget 1 none d [va_rf a0] h (.inr none) hz := by
  refine mm_ofV (by decide +kernel) (by simp [lg_sl, mm_crf, mm_cti, mm_ctl]) (fun V C => ?_)
  rw [show lv_args 0 [va_rf a0] = [(0, va_rf a0)] by simp [lv_args, mm_crf, mm_cti, mm_ctl]]
  unfold F_X3_forget at hK
  refine mm_aload_n C (pc := 0) 0 dX3_forget_0 rfl ?_
  refine mm_iconst C (pc := 1) (v := (0 : Int32)) dX3_forget_1 (by decide) ?_
  replace hK := mm_bd hK; obtain ⟨h2, e2, hK⟩ := hK
  refine mm_puti C (pc := 2) (k := 2) false (fun z => by cases z) inGX3 tyX3 tyX3_ok nmX3 rfl (by decide) wd_191 rfl rfl dX3_forget_2 e2 ?_
  cases hK
  exact mm_vret C (pc := 5) rfl dX3_forget_5 rfl rfl
theorem wd_1165 : Cond.code yX11_needWithin cX11_needWithin 3 none ∈ lw_good := mm_wd 1165 (by decide +kernel) (by decide +kernel)
theorem tT_X11_needWithin : mm_T yX11_needWithin cX11_needWithin 3 none 3 := ⟨wd_1165, wd_142, by decide +kernel, by decide +kernel, by decide +kernel, by decide +kernel⟩
theorem wd_1163 : Cond.methodLink RX11 112 yX11_needWithin ∈ lw_good := mm_wd 1163 (by decide +kernel) (by decide +kernel)
theorem wd_1164 : Cond.static yX11_needWithin ∈ lw_good := mm_wd 1164 (by decide +kernel) (by decide +kernel)
theorem wd_1172 : Cond.code yX7_read cX7_read 4 none ∈ lw_good := mm_wd 1172 (by decide +kernel) (by decide +kernel)
theorem tT_X7_read : mm_T yX7_read cX7_read 4 none 1 := ⟨wd_1172, wd_148, by decide +kernel, by decide +kernel, by decide +kernel, by decide +kernel⟩
theorem wd_1169 : Cond.methodLink RX11 116 yX7_read ∈ lw_good := mm_wd 1169 (by decide +kernel) (by decide +kernel)
theorem wd_1170 : Cond.instanceMethod yX7_read ∈ lw_good := mm_wd 1170 (by decide +kernel) (by decide +kernel)
theorem wd_1171 : Cond.selects RX7 yX7_read yX7_read ∈ lw_good := mm_wd 1171 (by decide +kernel) (by decide +kernel)
theorem wd_1397 : Cond.code yX7_flaw cX7_flaw 1 (some .int) ∈ lw_good := mm_wd 1397 (by decide +kernel) (by decide +kernel)
theorem tT_X7_flaw : mm_T yX7_flaw cX7_flaw 1 (some .int) 0 := ⟨wd_1397, wd_148, by decide +kernel, by decide +kernel, by decide +kernel, by decide +kernel⟩
theorem wd_1394 : Cond.methodLink RX11 119 yX7_flaw ∈ lw_good := mm_wd 1394 (by decide +kernel) (by decide +kernel)
theorem wd_1395 : Cond.instanceMethod yX7_flaw ∈ lw_good := mm_wd 1395 (by decide +kernel) (by decide +kernel)
theorem wd_1396 : Cond.selects RX7 yX7_flaw yX7_flaw ∈ lw_good := mm_wd 1396 (by decide +kernel) (by decide +kernel)
theorem wd_1401 : Cond.code yX7_flawPlace cX7_flawPlace 1 (some .int) ∈ lw_good := mm_wd 1401 (by decide +kernel) (by decide +kernel)
theorem tT_X7_flawPlace : mm_T yX7_flawPlace cX7_flawPlace 1 (some .int) 0 := ⟨wd_1401, wd_148, by decide +kernel, by decide +kernel, by decide +kernel, by decide +kernel⟩
theorem wd_1398 : Cond.methodLink RX11 123 yX7_flawPlace ∈ lw_good := mm_wd 1398 (by decide +kernel) (by decide +kernel)
theorem wd_1399 : Cond.instanceMethod yX7_flawPlace ∈ lw_good := mm_wd 1399 (by decide +kernel) (by decide +kernel)
theorem wd_1400 : Cond.selects RX7 yX7_flawPlace yX7_flawPlace ∈ lw_good := mm_wd 1400 (by decide +kernel) (by decide +kernel)
theorem wd_1405 : Cond.code yX0_setUp cX0_setUp 4 none ∈ lw_good := mm_wd 1405 (by decide +kernel) (by decide +kernel)
theorem tT_X0_setUp : mm_T yX0_setUp cX0_setUp 4 none 2 := ⟨wd_1405, wd_150, by decide +kernel, by decide +kernel, by decide +kernel, by decide +kernel⟩
theorem wd_1402 : Cond.methodLink RX11 126 yX0_setUp ∈ lw_good := mm_wd 1402 (by decide +kernel) (by decide +kernel)
theorem wd_1403 : Cond.instanceMethod yX0_setUp ∈ lw_good := mm_wd 1403 (by decide +kernel) (by decide +kernel)
theorem wd_1404 : Cond.selects RX0 yX0_setUp yX0_setUp ∈ lw_good := mm_wd 1404 (by decide +kernel) (by decide +kernel)
theorem wd_1421 : Cond.code yX3_forget cX3_forget 1 none ∈ lw_good := mm_wd 1421 (by decide +kernel) (by decide +kernel)
theorem tT_X3_forget : mm_T yX3_forget cX3_forget 1 none 0 := ⟨wd_1421, wd_143, by decide +kernel, by decide +kernel, by decide +kernel, by decide +kernel⟩
theorem wd_1418 : Cond.methodLink RX11 130 yX3_forget ∈ lw_good := mm_wd 1418 (by decide +kernel) (by decide +kernel)
theorem wd_1419 : Cond.instanceMethod yX3_forget ∈ lw_good := mm_wd 1419 (by decide +kernel) (by decide +kernel)
theorem wd_1420 : Cond.selects RX3 yX3_forget yX3_forget ∈ lw_good := mm_wd 1420 (by decide +kernel) (by decide +kernel)
theorem wd_782 : Cond.fieldLink RX11 133 "CrossedLines$Plan" "textLines" "I" ∈ lw_good := mm_wd 782 (by decide +kernel) (by decide +kernel)
def F_X11_exchange (a0 : Option Nat) (a1 : Int32) (h : MH) : Option ((String ⊕ Int32) × MH) := (gI h a0 11 1).bind fun v3 => mm_b3 (F_X11_needWithin a1 (0 : Int32) v3 h) fun _ h6 => (pI h6 a0 11 1 (0 : Int32)).bind fun h11 => (gR h11 a0 11 2).bind fun v15 => (cV h11 v15 7 (F_X7_read v15 a1 h11)).bind fun h19 => (gR h19 a0 11 2).bind fun v24 => mm_b2 (cV h19 v24 7 (F_X7_flaw v24 h19)) fun v27 h27 => (pI h27 a0 11 3 v27).bind fun h30 => (gR h30 a0 11 2).bind fun v35 => mm_b2 (cV h30 v35 7 (F_X7_flawPlace v35 h30)) fun v38 h38 => (pI h38 a0 11 4 v38).bind fun h41 => (gI h41 a0 11 3).bind fun v45 => if v45 = 0 then ((gR h41 a0 11 5).bind fun v60 => mm_b2 (nO h41 8 [.int 0, .int 0, .int 0, .null, .null, .null, .null] 7) fun v63 h63 => (gR h63 a0 11 2).bind fun v68 => v63.bind fun b71 => (F_X8_init (some b71) v68 h63).bind fun h71 => (gR h71 a0 11 2).bind fun v75 => (cV h71 v60 0 (F_X0_setUp v60 (some b71) v75 h71)).bind fun h78 => (gR h78 a0 11 6).bind fun v82 => (cV h78 v82 3 (F_X3_forget v82 h78)).bind fun h85 => (gR h85 a0 11 5).bind fun v89 => (gR h85 v89 0 2).bind fun v92 => (gI h85 v92 8 2).bind fun v95 => some (.inr v95, h85)) else ((gI h41 a0 11 3).bind fun v54 => some (.inr (((-10) : Int32) - v54), h41))
set_option maxRecDepth 20000 in
set_option maxHeartbeats 4000000 in
theorem S_X11_exchange {d : Nat} (hd : 139 ≤ d) {a0 : Option Nat} {a1 : Int32} {h : MH} {r : String ⊕ Int32} {hz : MH} (hK : F_X11_exchange a0 a1 h = some (r, hz)) : mm_M yX11_exchange cX11_exchange 2 (some .int) d [va_rf a0, .int a1] h (mm_oi r) hz := by
  refine mm_ofV (by decide +kernel) (by simp [lg_sl, mm_crf, mm_cti, mm_ctl]) (fun V C => ?_)
  rw [show lv_args 0 [va_rf a0, .int a1] = [(0, va_rf a0), (1, .int a1)] by simp [lv_args, mm_crf, mm_cti, mm_ctl]]
  unfold F_X11_exchange at hK
  refine mm_iload_n C (pc := 0) 1 dX11_exchange_0 rfl ?_
  refine mm_iconst C (pc := 1) (v := (0 : Int32)) dX11_exchange_1 (by decide) ?_
  refine mm_aload_n C (pc := 2) 0 dX11_exchange_2 rfl ?_
  replace hK := mm_bd hK; obtain ⟨v3, e3, hK⟩ := hK
  refine mm_geti C (pc := 3) (k := 1) inGX11 rfl (by decide) wd_846 dX11_exchange_3 e3 ?_
  replace hK := mm_b3s hK; rcases hK with ⟨E6, e6, rfl⟩ | ⟨v6, h6, e6, hK⟩
  · skip
    exact mm_callSX C (pc := 6) (d1 := 6) (As := [.int a1, .int (0 : Int32), .int v3]) (st := []) ((S_X11_needWithin (by omega)) e6) tT_X11_needWithin wd_1163 wd_1164 (by omega) (by decide) rfl (by simp [mm_crf, mm_cti, mm_ctl]) rfl dX11_exchange_6 rfl rfl
  refine mm_callS C (pc := 6) (d1 := 6) (As := [.int a1, .int (0 : Int32), .int v3]) (st := []) (vk := none) ((S_X11_needWithin (by omega)) e6) tT_X11_needWithin wd_1163 wd_1164 (by omega) (by decide) rfl (by simp [mm_crf, mm_cti, mm_ctl]) rfl dX11_exchange_6 ?_
  show V _ _ [] _
  refine mm_aload_n C (pc := 9) 0 dX11_exchange_9 rfl ?_
  refine mm_iconst C (pc := 10) (v := (0 : Int32)) dX11_exchange_10 (by decide) ?_
  replace hK := mm_bd hK; obtain ⟨h11, e11, hK⟩ := hK
  refine mm_puti C (pc := 11) (k := 1) false (fun z => by cases z) inGX11 tyX11 tyX11_ok nmX11 rfl (by decide) wd_846 rfl rfl dX11_exchange_11 e11 ?_
  refine mm_aload_n C (pc := 14) 0 dX11_exchange_14 rfl ?_
  replace hK := mm_bd hK; obtain ⟨v15, e15, hK⟩ := hK
  refine mm_getr C (pc := 15) (k := 2) inGX11 rfl (by decide) wd_847 dX11_exchange_15 e15 ?_
  refine mm_iload_n C (pc := 18) 1 dX11_exchange_18 rfl ?_
  replace hK := mm_bd hK; obtain ⟨h19, e19, hK⟩ := hK
  obtain ⟨o19, e19⟩ := cV_some e19
  refine mm_callV C (pc := 19) (d1 := 138) (As := [.int a1]) (st := []) (vk := none) ((S_X7_read (by omega)) e19) tT_X7_read o19 (Or.inr ⟨_, rfl, rfl⟩) wd_1169 wd_1170 wd_1171 (by omega) (by decide) rfl (by simp [mm_crf, mm_cti, mm_ctl]) rfl dX11_exchange_19 ?_
  show V _ _ [] _
  refine mm_aload_n C (pc := 22) 0 dX11_exchange_22 rfl ?_
  refine mm_aload_n C (pc := 23) 0 dX11_exchange_23 rfl ?_
  replace hK := mm_bd hK; obtain ⟨v24, e24, hK⟩ := hK
  refine mm_getr C (pc := 24) (k := 2) inGX11 rfl (by decide) wd_847 dX11_exchange_24 e24 ?_
  replace hK := mm_b2s hK; obtain ⟨v27, h27, e27, hK⟩ := hK
  obtain ⟨o27, e27⟩ := cV_some e27
  refine mm_callV C (pc := 27) (d1 := 1) (As := []) (st := [va_rf a0]) (vk := (some (.int v27))) ((S_X7_flaw (by omega)) e27) tT_X7_flaw o27 (Or.inr ⟨_, rfl, rfl⟩) wd_1394 wd_1395 wd_1396 (by omega) (by decide) rfl (by simp [mm_crf, mm_cti, mm_ctl]) rfl dX11_exchange_27 ?_
  show V _ _ (.int v27 :: _) _
  replace hK := mm_bd hK; obtain ⟨h30, e30, hK⟩ := hK
  refine mm_puti C (pc := 30) (k := 3) false (fun z => by cases z) inGX11 tyX11 tyX11_ok nmX11 rfl (by decide) wd_848 rfl rfl dX11_exchange_30 e30 ?_
  refine mm_aload_n C (pc := 33) 0 dX11_exchange_33 rfl ?_
  refine mm_aload_n C (pc := 34) 0 dX11_exchange_34 rfl ?_
  replace hK := mm_bd hK; obtain ⟨v35, e35, hK⟩ := hK
  refine mm_getr C (pc := 35) (k := 2) inGX11 rfl (by decide) wd_847 dX11_exchange_35 e35 ?_
  replace hK := mm_b2s hK; obtain ⟨v38, h38, e38, hK⟩ := hK
  obtain ⟨o38, e38⟩ := cV_some e38
  refine mm_callV C (pc := 38) (d1 := 1) (As := []) (st := [va_rf a0]) (vk := (some (.int v38))) ((S_X7_flawPlace (by omega)) e38) tT_X7_flawPlace o38 (Or.inr ⟨_, rfl, rfl⟩) wd_1398 wd_1399 wd_1400 (by omega) (by decide) rfl (by simp [mm_crf, mm_cti, mm_ctl]) rfl dX11_exchange_38 ?_
  show V _ _ (.int v38 :: _) _
  replace hK := mm_bd hK; obtain ⟨h41, e41, hK⟩ := hK
  refine mm_puti C (pc := 41) (k := 4) false (fun z => by cases z) inGX11 tyX11 tyX11_ok nmX11 rfl (by decide) wd_849 rfl rfl dX11_exchange_41 e41 ?_
  refine mm_aload_n C (pc := 44) 0 dX11_exchange_44 rfl ?_
  replace hK := mm_bd hK; obtain ⟨v45, e45, hK⟩ := hK
  refine mm_geti C (pc := 45) (k := 3) inGX11 rfl (by decide) wd_848 dX11_exchange_45 e45 ?_
  refine mm_if_eq C (pc := 48) (tgt := 59) dX11_exchange_48 (by decide) (fun hc => ?_) (fun hc => ?_)
  · replace hK := mm_ip hc hK
    refine mm_aload_n C (pc := 59) 0 dX11_exchange_59 rfl ?_
    replace hK := mm_bd hK; obtain ⟨v60, e60, hK⟩ := hK
    refine mm_getr C (pc := 60) (k := 5) inGX11 rfl (by decide) wd_850 dX11_exchange_60 e60 ?_
    replace hK := mm_b2s hK; obtain ⟨v63, h63, e63, hK⟩ := hK
    refine mm_new C (pc := 63) inGX8 tyX8 tyX8_ok rfl wd_398 wd_399 wd_151 (mm_dv (by decide)) (fun _ => rfl) dX11_exchange_63 e63 ?_
    refine mm_dup C (pc := 66) dX11_exchange_66 mm_crf ?_
    refine mm_aload_n C (pc := 67) 0 dX11_exchange_67 rfl ?_
    replace hK := mm_bd hK; obtain ⟨v68, e68, hK⟩ := hK
    refine mm_getr C (pc := 68) (k := 2) inGX11 rfl (by decide) wd_847 dX11_exchange_68 e68 ?_
    replace hK := mm_bd hK; obtain ⟨b71, e71, hK⟩ := hK
    subst e71
    replace hK := mm_bd hK; obtain ⟨h71, f71, hK⟩ := hK
    refine mm_callI C (pc := 71) (d1 := 5) (As := [va_rf v68]) (st := [va_rf (some b71), va_rf v60]) false ((S_X8_init (by omega)) f71) tT_X8_init rfl wd_400 wd_401 (by omega) (by decide) rfl (by simp [mm_crf, mm_cti, mm_ctl]) rfl dX11_exchange_71 ?_
    refine mm_aload_n C (pc := 74) 0 dX11_exchange_74 rfl ?_
    replace hK := mm_bd hK; obtain ⟨v75, e75, hK⟩ := hK
    refine mm_getr C (pc := 75) (k := 2) inGX11 rfl (by decide) wd_847 dX11_exchange_75 e75 ?_
    replace hK := mm_bd hK; obtain ⟨h78, e78, hK⟩ := hK
    obtain ⟨o78, e78⟩ := cV_some e78
    refine mm_callV C (pc := 78) (d1 := 3) (As := [va_rf (some b71), va_rf v75]) (st := []) (vk := none) ((S_X0_setUp (by omega)) e78) tT_X0_setUp o78 (Or.inr ⟨_, rfl, rfl⟩) wd_1402 wd_1403 wd_1404 (by omega) (by decide) rfl (by simp [mm_crf, mm_cti, mm_ctl]) rfl dX11_exchange_78 ?_
    show V _ _ [] _
    refine mm_aload_n C (pc := 81) 0 dX11_exchange_81 rfl ?_
    replace hK := mm_bd hK; obtain ⟨v82, e82, hK⟩ := hK
    refine mm_getr C (pc := 82) (k := 6) inGX11 rfl (by decide) wd_851 dX11_exchange_82 e82 ?_
    replace hK := mm_bd hK; obtain ⟨h85, e85, hK⟩ := hK
    obtain ⟨o85, e85⟩ := cV_some e85
    refine mm_callV C (pc := 85) (d1 := 1) (As := []) (st := []) (vk := none) ((S_X3_forget (by omega)) e85) tT_X3_forget o85 (Or.inr ⟨_, rfl, rfl⟩) wd_1418 wd_1419 wd_1420 (by omega) (by decide) rfl (by simp [mm_crf, mm_cti, mm_ctl]) rfl dX11_exchange_85 ?_
    show V _ _ [] _
    refine mm_aload_n C (pc := 88) 0 dX11_exchange_88 rfl ?_
    replace hK := mm_bd hK; obtain ⟨v89, e89, hK⟩ := hK
    refine mm_getr C (pc := 89) (k := 5) inGX11 rfl (by decide) wd_850 dX11_exchange_89 e89 ?_
    replace hK := mm_bd hK; obtain ⟨v92, e92, hK⟩ := hK
    refine mm_getr C (pc := 92) (k := 2) inGX0 rfl (by decide) wd_819 dX11_exchange_92 e92 ?_
    replace hK := mm_bd hK; obtain ⟨v95, e95, hK⟩ := hK
    refine mm_geti C (pc := 95) (k := 2) inGX8 rfl (by decide) wd_782 dX11_exchange_95 e95 ?_
    cases hK
    exact mm_iret C (pc := 98) rfl dX11_exchange_98 rfl rfl
  · replace hK := mm_in hc hK
    refine mm_bipush C (pc := 51) (v := ((-10) : Int32)) dX11_exchange_51 (by decide) ?_
    refine mm_aload_n C (pc := 53) 0 dX11_exchange_53 rfl ?_
    replace hK := mm_bd hK; obtain ⟨v54, e54, hK⟩ := hK
    refine mm_geti C (pc := 54) (k := 3) inGX11 rfl (by decide) wd_848 dX11_exchange_54 e54 ?_
    refine mm_isub C (pc := 57) dX11_exchange_57 ?_
    obtain ⟨rfl, rfl⟩ := Prod.mk.inj (Option.some.inj hK)
    exact mm_iret C (pc := 58) rfl dX11_exchange_58 rfl rfl
def F_X11_fault_22 (s0 : Int32) (h : MH) : Option (Int32 × MH) := some (s0, h)
set_option maxRecDepth 20000 in
set_option maxHeartbeats 4000000 in
theorem w_X11_fault_22 {d : Nat} {V : Nat → List (Nat × Value) → List Value → MH → Prop} {r : Int32} {hz : MH} (hd : 1 ≤ d) (C : mm_C d yX11_fault cX11_fault 2 (some .int) (.inr (some (.int r))) hz V) (s0 : Int32) (h : MH) (hK : F_X11_fault_22 s0 h = some (r, hz)) : V 22 [] [.int s0] h := by
  unfold F_X11_fault_22 at hK
  cases hK
  exact mm_iret C (pc := 22) rfl dX11_fault_22 rfl rfl
def F_X11_fault (a0 : Option Nat) (a1 : Int32) (h : MH) : Option (Int32 × MH) := if a1 = 0 then ((gI h a0 11 3).bind fun v5 => some (v5, h)) else (if a1 = (1 : Int32) then ((gI h a0 11 4).bind fun v15 => F_X11_fault_22 v15 h) else (F_X11_fault_22 ((-1) : Int32) h))
set_option maxRecDepth 20000 in
set_option maxHeartbeats 4000000 in
theorem S_X11_fault {d : Nat} (hd : 1 ≤ d) {a0 : Option Nat} {a1 : Int32} {h : MH} {r : Int32} {hz : MH} (hK : F_X11_fault a0 a1 h = some (r, hz)) : mm_M yX11_fault cX11_fault 2 (some .int) d [va_rf a0, .int a1] h (.inr (some (.int r))) hz := by
  refine mm_ofV (by decide +kernel) (by simp [lg_sl, mm_crf, mm_cti, mm_ctl]) (fun V C => ?_)
  rw [show lv_args 0 [va_rf a0, .int a1] = [(0, va_rf a0), (1, .int a1)] by simp [lv_args, mm_crf, mm_cti, mm_ctl]]
  unfold F_X11_fault at hK
  refine mm_iload_n C (pc := 0) 1 dX11_fault_0 rfl ?_
  refine mm_if_ne C (pc := 1) (tgt := 9) dX11_fault_1 (by decide) (fun hc => ?_) (fun hc => ?_)
  · replace hK := mm_in hc hK
    refine mm_iload_n C (pc := 9) 1 dX11_fault_9 rfl ?_
    refine mm_iconst C (pc := 10) (v := (1 : Int32)) dX11_fault_10 (by decide) ?_
    refine mm_icmp_ne C (pc := 11) (tgt := 21) dX11_fault_11 (by decide) (fun hc => ?_) (fun hc => ?_)
    · replace hK := mm_in hc hK
      refine mm_iconst C (pc := 21) (v := ((-1) : Int32)) dX11_fault_21 (by decide) ?_
      refine mm_sub C [] rfl ?_
      exact w_X11_fault_22 hd C _ _ hK
    · replace hK := mm_ip hc hK
      refine mm_aload_n C (pc := 14) 0 dX11_fault_14 rfl ?_
      replace hK := mm_bd hK; obtain ⟨v15, e15, hK⟩ := hK
      refine mm_geti C (pc := 15) (k := 4) inGX11 rfl (by decide) wd_849 dX11_fault_15 e15 ?_
      refine mm_goto C (pc := 18) (tgt := 22) dX11_fault_18 (by decide) ?_
      refine mm_sub C [] rfl ?_
      exact w_X11_fault_22 hd C _ _ hK
  · replace hK := mm_ip hc hK
    refine mm_aload_n C (pc := 4) 0 dX11_fault_4 rfl ?_
    replace hK := mm_bd hK; obtain ⟨v5, e5, hK⟩ := hK
    refine mm_geti C (pc := 5) (k := 3) inGX11 rfl (by decide) wd_848 dX11_fault_5 e5 ?_
    cases hK
    exact mm_iret C (pc := 8) rfl dX11_fault_8 rfl rfl
theorem wd_1434 : Cond.classLink RX11 153 "java/util/NoSuchElementException" ∈ lw_good := mm_wd 1434 (by decide +kernel) (by decide +kernel)
theorem wd_172 : Cond.initialized "java/util/NoSuchElementException" ∈ lw_good := mm_wd 172 (by decide +kernel) (by decide +kernel)
theorem tW_X11_153_157 : mm_Twn RX11 "java/util/NoSuchElementException" 153 157 := ⟨⟨by decide +kernel, wd_1434, wd_172⟩, mm_fg (by decide +kernel), mm_fn (by decide +kernel), by decide +kernel⟩
theorem wd_776 : Cond.fieldLink RX11 242 "CrossedLines$Plan" "lines" "I" ∈ lw_good := mm_wd 776 (by decide +kernel) (by decide +kernel)
def F_X11_needLine_18 (h : MH) : Option ((String ⊕ Unit) × MH) := (tH h).bind fun h18 => some (.inl "java/util/NoSuchElementException", h18)
set_option maxRecDepth 20000 in
set_option maxHeartbeats 4000000 in
theorem w_X11_needLine_18 {d : Nat} {V : Nat → List (Nat × Value) → List Value → MH → Prop} {r : String ⊕ Unit} {hz : MH} (hd : 6 ≤ d) (C : mm_C d yX11_needLine cX11_needLine 2 none (mm_ov r) hz V) (h : MH) (hK : F_X11_needLine_18  h = some (r, hz)) : V 18 [] [] h := by
  unfold F_X11_needLine_18 at hK
  replace hK := mm_bd hK; obtain ⟨h18, e18, hK⟩ := hK
  cases hK
  exact mm_throwNW C (pc := 18) (i := 20) tW_X11_153_157 (by rfl) dX11_needLine_18 dX11_needLine_21 dX11_needLine_22 dX11_needLine_25 dX11_needLine_28 (by omega) (by simp [mm_crf, mm_cti, mm_ctl]) rfl e18
def F_X11_needLine (a0 : Option Nat) (a1 : Int32) (h : MH) : Option ((String ⊕ Unit) × MH) := if a1 < 0 then (F_X11_needLine_18 h) else ((gR h a0 11 5).bind fun v6 => (gR h v6 0 2).bind fun v9 => (gI h v9 8 0).bind fun v12 => if a1 < v12 then (some (.inr (), h)) else (F_X11_needLine_18 h))
set_option maxRecDepth 20000 in
set_option maxHeartbeats 4000000 in
theorem S_X11_needLine {d : Nat} (hd : 6 ≤ d) {a0 : Option Nat} {a1 : Int32} {h : MH} {r : String ⊕ Unit} {hz : MH} (hK : F_X11_needLine a0 a1 h = some (r, hz)) : mm_M yX11_needLine cX11_needLine 2 none d [va_rf a0, .int a1] h (mm_ov r) hz := by
  refine mm_ofV (by decide +kernel) (by simp [lg_sl, mm_crf, mm_cti, mm_ctl]) (fun V C => ?_)
  rw [show lv_args 0 [va_rf a0, .int a1] = [(0, va_rf a0), (1, .int a1)] by simp [lv_args, mm_crf, mm_cti, mm_ctl]]
  unfold F_X11_needLine at hK
  refine mm_iload_n C (pc := 0) 1 dX11_needLine_0 rfl ?_
  refine mm_if_lt C (pc := 1) (tgt := 18) dX11_needLine_1 (by decide) (fun hc => ?_) (fun hc => ?_)
  · replace hK := mm_ip hc hK
    refine mm_sub C [] rfl ?_
    exact w_X11_needLine_18 hd C _ hK
  · replace hK := mm_in hc hK
    refine mm_iload_n C (pc := 4) 1 dX11_needLine_4 rfl ?_
    refine mm_aload_n C (pc := 5) 0 dX11_needLine_5 rfl ?_
    replace hK := mm_bd hK; obtain ⟨v6, e6, hK⟩ := hK
    refine mm_getr C (pc := 6) (k := 5) inGX11 rfl (by decide) wd_850 dX11_needLine_6 e6 ?_
    replace hK := mm_bd hK; obtain ⟨v9, e9, hK⟩ := hK
    refine mm_getr C (pc := 9) (k := 2) inGX0 rfl (by decide) wd_819 dX11_needLine_9 e9 ?_
    replace hK := mm_bd hK; obtain ⟨v12, e12, hK⟩ := hK
    refine mm_geti C (pc := 12) (k := 0) inGX8 rfl (by decide) wd_776 dX11_needLine_12 e12 ?_
    refine mm_icmp_lt C (pc := 15) (tgt := 29) dX11_needLine_15 (by decide) (fun hc => ?_) (fun hc => ?_)
    · replace hK := mm_ip hc hK
      cases hK
      exact mm_vret C (pc := 29) rfl dX11_needLine_29 rfl rfl
    · replace hK := mm_in hc hK
      refine mm_sub C [] rfl ?_
      exact w_X11_needLine_18 hd C _ hK
def F_X0_fact_58 (s0 : Int32) (h : MH) : Option (Int32 × MH) := some (s0, h)
set_option maxRecDepth 20000 in
set_option maxHeartbeats 4000000 in
theorem w_X0_fact_58 {d : Nat} {V : Nat → List (Nat × Value) → List Value → MH → Prop} {r : Int32} {hz : MH} (hd : 1 ≤ d) (C : mm_C d yX0_fact cX0_fact 4 (some .int) (.inr (some (.int r))) hz V) (s0 : Int32) (h : MH) (hK : F_X0_fact_58 s0 h = some (r, hz)) : V 58 [] [.int s0] h := by
  unfold F_X0_fact_58 at hK
  cases hK
  exact mm_iret C (pc := 58) rfl dX0_fact_58 rfl rfl
def F_X0_fact_35 (l0 : Option Nat) (l1 : Int32) (l2 : Int32) (s0 : Int32) (h : MH) : Option (Int32 × MH) := if s0 = 0 then (F_X0_fact_58 ((-1) : Int32) h) else ((gR h l0 0 0).bind fun v41 => (aI h v41 0 (((11 : Int32) + (l1 * (7 : Int32))) + l2)).bind fun v53 => F_X0_fact_58 v53 h)
set_option maxRecDepth 20000 in
set_option maxHeartbeats 4000000 in
theorem w_X0_fact_35 {d : Nat} {V : Nat → List (Nat × Value) → List Value → MH → Prop} {r : Int32} {hz : MH} (hd : 1 ≤ d) (C : mm_C d yX0_fact cX0_fact 4 (some .int) (.inr (some (.int r))) hz V) (l0 : Option Nat) (l1 : Int32) (l2 : Int32) (s0 : Int32) (h : MH) (hK : F_X0_fact_35 l0 l1 l2 s0 h = some (r, hz)) : V 35 [(0, va_rf l0), (1, .int l1), (2, .int l2)] [.int s0] h := by
  unfold F_X0_fact_35 at hK
  refine mm_istore_n C (pc := 35) (i := 3) (lv' := [(3, .int s0), (0, va_rf l0), (1, .int l1), (2, .int l2)]) dX0_fact_35 rfl (by decide) rfl ?_
  refine mm_iload_n C (pc := 36) 0 dX0_fact_36 rfl ?_
  refine mm_if_eq C (pc := 37) (tgt := 57) dX0_fact_37 (by decide) (fun hc => ?_) (fun hc => ?_)
  · replace hK := mm_ip hc hK
    refine mm_iconst C (pc := 57) (v := ((-1) : Int32)) dX0_fact_57 (by decide) ?_
    refine mm_sub C [] rfl ?_
    exact w_X0_fact_58 hd C _ _ hK
  · replace hK := mm_in hc hK
    refine mm_aload_n C (pc := 40) 1 dX0_fact_40 rfl ?_
    replace hK := mm_bd hK; obtain ⟨v41, e41, hK⟩ := hK
    refine mm_getr C (pc := 41) (k := 0) inGX0 rfl (by decide) wd_816 dX0_fact_41 e41 ?_
    refine mm_bipush C (pc := 44) (v := (11 : Int32)) dX0_fact_44 (by decide) ?_
    refine mm_iload_n C (pc := 46) 2 dX0_fact_46 rfl ?_
    refine mm_bipush C (pc := 47) (v := (7 : Int32)) dX0_fact_47 (by decide) ?_
    refine mm_imul C (pc := 49) dX0_fact_49 ?_
    refine mm_iadd C (pc := 50) dX0_fact_50 ?_
    refine mm_iload_n C (pc := 51) 3 dX0_fact_51 rfl ?_
    refine mm_iadd C (pc := 52) dX0_fact_52 ?_
    replace hK := mm_bd hK; obtain ⟨v53, e53, hK⟩ := hK
    refine mm_iald C (pc := 53) dX0_fact_53 e53 ?_
    refine mm_goto C (pc := 54) (tgt := 58) dX0_fact_54 (by decide) ?_
    refine mm_sub C [] rfl ?_
    exact w_X0_fact_58 hd C _ _ hK
def F_X0_fact_34 (l0 : Option Nat) (l1 : Int32) (l2 : Int32) (h : MH) : Option (Int32 × MH) := F_X0_fact_35 l0 l1 l2 (0 : Int32) h
set_option maxRecDepth 20000 in
set_option maxHeartbeats 4000000 in
theorem w_X0_fact_34 {d : Nat} {V : Nat → List (Nat × Value) → List Value → MH → Prop} {r : Int32} {hz : MH} (hd : 1 ≤ d) (C : mm_C d yX0_fact cX0_fact 4 (some .int) (.inr (some (.int r))) hz V) (l0 : Option Nat) (l1 : Int32) (l2 : Int32) (h : MH) (hK : F_X0_fact_34 l0 l1 l2 h = some (r, hz)) : V 34 [(0, va_rf l0), (1, .int l1), (2, .int l2)] [] h := by
  unfold F_X0_fact_34 at hK
  refine mm_iconst C (pc := 34) (v := (0 : Int32)) dX0_fact_34 (by decide) ?_
  exact w_X0_fact_35 hd C _ _ _ _ _ hK
def F_X0_fact (a0 : Option Nat) (a1 : Int32) (a2 : Int32) (h : MH) : Option (Int32 × MH) := if a1 < 0 then (F_X0_fact_34 a0 a1 a2 h) else ((gR h a0 0 0).bind fun v6 => (aI h v6 0 (1 : Int32)).bind fun v10 => if v10 ≤ a1 then (F_X0_fact_34 a0 a1 a2 h) else (if (10 : Int32) ≤ a1 then (F_X0_fact_34 a0 a1 a2 h) else (if a2 < 0 then (F_X0_fact_34 a0 a1 a2 h) else (if (7 : Int32) ≤ a2 then (F_X0_fact_34 a0 a1 a2 h) else (F_X0_fact_35 a0 a1 a2 (1 : Int32) h)))))
set_option maxRecDepth 20000 in
set_option maxHeartbeats 4000000 in
theorem S_X0_fact {d : Nat} (hd : 1 ≤ d) {a0 : Option Nat} {a1 : Int32} {a2 : Int32} {h : MH} {r : Int32} {hz : MH} (hK : F_X0_fact a0 a1 a2 h = some (r, hz)) : mm_M yX0_fact cX0_fact 4 (some .int) d [va_rf a0, .int a1, .int a2] h (.inr (some (.int r))) hz := by
  refine mm_ofV (by decide +kernel) (by simp [lg_sl, mm_crf, mm_cti, mm_ctl]) (fun V C => ?_)
  rw [show lv_args 0 [va_rf a0, .int a1, .int a2] = [(0, va_rf a0), (1, .int a1), (2, .int a2)] by simp [lv_args, mm_crf, mm_cti, mm_ctl]]
  unfold F_X0_fact at hK
  refine mm_iload_n C (pc := 0) 1 dX0_fact_0 rfl ?_
  refine mm_if_lt C (pc := 1) (tgt := 34) dX0_fact_1 (by decide) (fun hc => ?_) (fun hc => ?_)
  · replace hK := mm_ip hc hK
    exact w_X0_fact_34 hd C _ _ _ _ hK
  · replace hK := mm_in hc hK
    refine mm_iload_n C (pc := 4) 1 dX0_fact_4 rfl ?_
    refine mm_aload_n C (pc := 5) 0 dX0_fact_5 rfl ?_
    replace hK := mm_bd hK; obtain ⟨v6, e6, hK⟩ := hK
    refine mm_getr C (pc := 6) (k := 0) inGX0 rfl (by decide) wd_816 dX0_fact_6 e6 ?_
    refine mm_iconst C (pc := 9) (v := (1 : Int32)) dX0_fact_9 (by decide) ?_
    replace hK := mm_bd hK; obtain ⟨v10, e10, hK⟩ := hK
    refine mm_iald C (pc := 10) dX0_fact_10 e10 ?_
    refine mm_icmp_ge C (pc := 11) (tgt := 34) dX0_fact_11 (by decide) (fun hc => ?_) (fun hc => ?_)
    · replace hK := mm_ip hc hK
      exact w_X0_fact_34 hd C _ _ _ _ hK
    · replace hK := mm_in hc hK
      refine mm_iload_n C (pc := 14) 1 dX0_fact_14 rfl ?_
      refine mm_bipush C (pc := 15) (v := (10 : Int32)) dX0_fact_15 (by decide) ?_
      refine mm_icmp_ge C (pc := 17) (tgt := 34) dX0_fact_17 (by decide) (fun hc => ?_) (fun hc => ?_)
      · replace hK := mm_ip hc hK
        exact w_X0_fact_34 hd C _ _ _ _ hK
      · replace hK := mm_in hc hK
        refine mm_iload_n C (pc := 20) 2 dX0_fact_20 rfl ?_
        refine mm_if_lt C (pc := 21) (tgt := 34) dX0_fact_21 (by decide) (fun hc => ?_) (fun hc => ?_)
        · replace hK := mm_ip hc hK
          exact w_X0_fact_34 hd C _ _ _ _ hK
        · replace hK := mm_in hc hK
          refine mm_iload_n C (pc := 24) 2 dX0_fact_24 rfl ?_
          refine mm_bipush C (pc := 25) (v := (7 : Int32)) dX0_fact_25 (by decide) ?_
          refine mm_icmp_ge C (pc := 27) (tgt := 34) dX0_fact_27 (by decide) (fun hc => ?_) (fun hc => ?_)
          · replace hK := mm_ip hc hK
            exact w_X0_fact_34 hd C _ _ _ _ hK
          · replace hK := mm_in hc hK
            refine mm_iconst C (pc := 30) (v := (1 : Int32)) dX0_fact_30 (by decide) ?_
            refine mm_goto C (pc := 31) (tgt := 35) dX0_fact_31 (by decide) ?_
            exact w_X0_fact_35 hd C _ _ _ _ _ hK
theorem wd_963 : Cond.code yX0_fact cX0_fact 4 (some .int) ∈ lw_good := mm_wd 963 (by decide +kernel) (by decide +kernel)
theorem tT_X0_fact : mm_T yX0_fact cX0_fact 4 (some .int) 2 := ⟨wd_963, wd_150, by decide +kernel, by decide +kernel, by decide +kernel, by decide +kernel⟩
theorem wd_960 : Cond.methodLink RX0 64 yX0_fact ∈ lw_good := mm_wd 960 (by decide +kernel) (by decide +kernel)
theorem wd_961 : Cond.instanceMethod yX0_fact ∈ lw_good := mm_wd 961 (by decide +kernel) (by decide +kernel)
theorem wd_962 : Cond.selects RX0 yX0_fact yX0_fact ∈ lw_good := mm_wd 962 (by decide +kernel) (by decide +kernel)
def F_X0_isOn_15 (s0 : Int32) (h : MH) : Option (Int32 × MH) := rZ s0 h
set_option maxRecDepth 20000 in
set_option maxHeartbeats 4000000 in
theorem w_X0_isOn_15 {d : Nat} {V : Nat → List (Nat × Value) → List Value → MH → Prop} {r : Int32} {hz : MH} (hd : 2 ≤ d) (C : mm_C d yX0_isOn cX0_isOn 2 (some .boolean) (.inr (some (.int r))) hz V) (s0 : Int32) (h : MH) (hK : F_X0_isOn_15 s0 h = some (r, hz)) : V 15 [] [.int s0] h := by
  unfold F_X0_isOn_15 at hK
  replace hK := rZ_some hK; obtain ⟨hv15, hK⟩ := hK
  cases hK
  exact mm_zret C (pc := 15) rfl (mm_nrZ hv15) dX0_isOn_15 rfl rfl
def F_X0_isOn (a0 : Option Nat) (a1 : Int32) (h : MH) : Option (Int32 × MH) := mm_b2 (cV h a0 0 (F_X0_fact a0 a1 (4 : Int32) h)) fun v3 h3 => if v3 = (1 : Int32) then (F_X0_isOn_15 (1 : Int32) h3) else (F_X0_isOn_15 (0 : Int32) h3)
set_option maxRecDepth 20000 in
set_option maxHeartbeats 4000000 in
theorem S_X0_isOn {d : Nat} (hd : 2 ≤ d) {a0 : Option Nat} {a1 : Int32} {h : MH} {r : Int32} {hz : MH} (hK : F_X0_isOn a0 a1 h = some (r, hz)) : mm_M yX0_isOn cX0_isOn 2 (some .boolean) d [va_rf a0, .int a1] h (.inr (some (.int r))) hz := by
  refine mm_ofV (by decide +kernel) (by simp [lg_sl, mm_crf, mm_cti, mm_ctl]) (fun V C => ?_)
  rw [show lv_args 0 [va_rf a0, .int a1] = [(0, va_rf a0), (1, .int a1)] by simp [lv_args, mm_crf, mm_cti, mm_ctl]]
  unfold F_X0_isOn at hK
  refine mm_aload_n C (pc := 0) 0 dX0_isOn_0 rfl ?_
  refine mm_iload_n C (pc := 1) 1 dX0_isOn_1 rfl ?_
  refine mm_iconst C (pc := 2) (v := (4 : Int32)) dX0_isOn_2 (by decide) ?_
  replace hK := mm_b2s hK; obtain ⟨v3, h3, e3, hK⟩ := hK
  obtain ⟨o3, e3⟩ := cV_some e3
  refine mm_callV C (pc := 3) (d1 := 1) (As := [.int a1, .int (4 : Int32)]) (st := []) (vk := (some (.int v3))) ((S_X0_fact (by omega)) e3) tT_X0_fact o3 (Or.inr ⟨_, rfl, rfl⟩) wd_960 wd_961 wd_962 (by omega) (by decide) rfl (by simp [mm_crf, mm_cti, mm_ctl]) rfl dX0_isOn_3 ?_
  show V _ _ (.int v3 :: _) _
  refine mm_iconst C (pc := 6) (v := (1 : Int32)) dX0_isOn_6 (by decide) ?_
  refine mm_icmp_ne C (pc := 7) (tgt := 14) dX0_isOn_7 (by decide) (fun hc => ?_) (fun hc => ?_)
  · replace hK := mm_in hc hK
    refine mm_iconst C (pc := 14) (v := (0 : Int32)) dX0_isOn_14 (by decide) ?_
    refine mm_sub C [] rfl ?_
    exact w_X0_isOn_15 hd C _ _ hK
  · replace hK := mm_ip hc hK
    refine mm_iconst C (pc := 10) (v := (1 : Int32)) dX0_isOn_10 (by decide) ?_
    refine mm_goto C (pc := 11) (tgt := 15) dX0_isOn_11 (by decide) ?_
    refine mm_sub C [] rfl ?_
    exact w_X0_isOn_15 hd C _ _ hK
theorem wd_959 : Cond.code yX0_isOn cX0_isOn 2 (some .boolean) ∈ lw_good := mm_wd 959 (by decide +kernel) (by decide +kernel)
theorem tT_X0_isOn : mm_T yX0_isOn cX0_isOn 2 (some .boolean) 1 := ⟨wd_959, wd_150, by decide +kernel, by decide +kernel, by decide +kernel, by decide +kernel⟩
theorem wd_956 : Cond.methodLink RX0 77 yX0_isOn ∈ lw_good := mm_wd 956 (by decide +kernel) (by decide +kernel)
theorem wd_957 : Cond.instanceMethod yX0_isOn ∈ lw_good := mm_wd 957 (by decide +kernel) (by decide +kernel)
theorem wd_958 : Cond.selects RX0 yX0_isOn yX0_isOn ∈ lw_good := mm_wd 958 (by decide +kernel) (by decide +kernel)
def F_X0_speaksWith_60 (k2 : Option Nat → Int32 → Int32 → MH → Option (Int32 × MH)) (l0 : Option Nat) (l1 : Int32) (l2 : Int32) (h : MH) : Option (Int32 × MH) := k2 l0 l1 (l2 + (1 : Int32)) h
set_option maxRecDepth 20000 in
set_option maxHeartbeats 4000000 in
theorem w_X0_speaksWith_60 {d : Nat} {V : Nat → List (Nat × Value) → List Value → MH → Prop} {r : Int32} {hz : MH} {k2 : Option Nat → Int32 → Int32 → MH → Option (Int32 × MH)} (hd : 3 ≤ d) (C : mm_C d yX0_speaksWith cX0_speaksWith 3 (some .int) (.inr (some (.int r))) hz V) (q2 : ∀ (x0 : Option Nat) (x1 : Int32) (x2 : Int32) (h : MH), k2 x0 x1 x2 h = some (r, hz) → V 2 [(0, va_rf x0), (1, .int x1), (2, .int x2)] [] h) (l0 : Option Nat) (l1 : Int32) (l2 : Int32) (h : MH) (hK : F_X0_speaksWith_60 k2 l0 l1 l2 h = some (r, hz)) : V 60 [(0, va_rf l0), (1, .int l1), (2, .int l2)] [] h := by
  unfold F_X0_speaksWith_60 at hK
  refine mm_iinc C (pc := 60) (v := (l2 + (1 : Int32))) (lv' := [(2, .int (l2 + (1 : Int32))), (0, va_rf l0), (1, .int l1)]) 2 dX0_speaksWith_60 rfl rfl (by decide) rfl ?_
  refine mm_goto C (pc := 63) (tgt := 2) dX0_speaksWith_63 (by decide) ?_
  refine mm_sub C [1, 2, 0] rfl ?_
  exact q2 _ _ _ _ hK
def F_X0_speaksWith_35 (k2 : Option Nat → Int32 → Int32 → MH → Option (Int32 × MH)) (l0 : Option Nat) (l1 : Int32) (l2 : Int32) (h : MH) : Option (Int32 × MH) := mm_b2 (cV h l0 0 (F_X0_isOn l0 l2 h)) fun v37 h37 => if v37 = 0 then (F_X0_speaksWith_60 k2 l0 l1 l2 h37) else (mm_b2 (cV h37 l0 0 (F_X0_fact l0 l2 (5 : Int32) h37)) fun v46 h46 => if v46 = l1 then (mm_b2 (cV h46 l0 0 (F_X0_fact l0 l2 (0 : Int32) h46)) fun v56 h56 => some (v56, h56)) else (F_X0_speaksWith_60 k2 l0 l1 l2 h46))
set_option maxRecDepth 20000 in
set_option maxHeartbeats 4000000 in
theorem w_X0_speaksWith_35 {d : Nat} {V : Nat → List (Nat × Value) → List Value → MH → Prop} {r : Int32} {hz : MH} {k2 : Option Nat → Int32 → Int32 → MH → Option (Int32 × MH)} (hd : 3 ≤ d) (C : mm_C d yX0_speaksWith cX0_speaksWith 3 (some .int) (.inr (some (.int r))) hz V) (q2 : ∀ (x0 : Option Nat) (x1 : Int32) (x2 : Int32) (h : MH), k2 x0 x1 x2 h = some (r, hz) → V 2 [(0, va_rf x0), (1, .int x1), (2, .int x2)] [] h) (l0 : Option Nat) (l1 : Int32) (l2 : Int32) (h : MH) (hK : F_X0_speaksWith_35 k2 l0 l1 l2 h = some (r, hz)) : V 35 [(0, va_rf l0), (1, .int l1), (2, .int l2)] [] h := by
  unfold F_X0_speaksWith_35 at hK
  refine mm_aload_n C (pc := 35) 0 dX0_speaksWith_35 rfl ?_
  refine mm_iload_n C (pc := 36) 2 dX0_speaksWith_36 rfl ?_
  replace hK := mm_b2s hK; obtain ⟨v37, h37, e37, hK⟩ := hK
  obtain ⟨o37, e37⟩ := cV_some e37
  refine mm_callV C (pc := 37) (d1 := 2) (As := [.int l2]) (st := []) (vk := (some (.int v37))) ((S_X0_isOn (by omega)) e37) tT_X0_isOn o37 (Or.inr ⟨_, rfl, rfl⟩) wd_956 wd_957 wd_958 (by omega) (by decide) rfl (by simp [mm_crf, mm_cti, mm_ctl]) rfl dX0_speaksWith_37 ?_
  show V _ _ (.int v37 :: _) _
  refine mm_if_eq C (pc := 40) (tgt := 60) dX0_speaksWith_40 (by decide) (fun hc => ?_) (fun hc => ?_)
  · replace hK := mm_ip hc hK
    exact w_X0_speaksWith_60 hd C (fun z0 z1 z2 z3 hK => q2 z0 z1 z2 z3 hK) _ _ _ _ hK
  · replace hK := mm_in hc hK
    refine mm_aload_n C (pc := 43) 0 dX0_speaksWith_43 rfl ?_
    refine mm_iload_n C (pc := 44) 2 dX0_speaksWith_44 rfl ?_
    refine mm_iconst C (pc := 45) (v := (5 : Int32)) dX0_speaksWith_45 (by decide) ?_
    replace hK := mm_b2s hK; obtain ⟨v46, h46, e46, hK⟩ := hK
    obtain ⟨o46, e46⟩ := cV_some e46
    refine mm_callV C (pc := 46) (d1 := 1) (As := [.int l2, .int (5 : Int32)]) (st := []) (vk := (some (.int v46))) ((S_X0_fact (by omega)) e46) tT_X0_fact o46 (Or.inr ⟨_, rfl, rfl⟩) wd_960 wd_961 wd_962 (by omega) (by decide) rfl (by simp [mm_crf, mm_cti, mm_ctl]) rfl dX0_speaksWith_46 ?_
    show V _ _ (.int v46 :: _) _
    refine mm_iload_n C (pc := 49) 1 dX0_speaksWith_49 rfl ?_
    refine mm_icmp_ne C (pc := 50) (tgt := 60) dX0_speaksWith_50 (by decide) (fun hc => ?_) (fun hc => ?_)
    · replace hK := mm_in hc hK
      exact w_X0_speaksWith_60 hd C (fun z0 z1 z2 z3 hK => q2 z0 z1 z2 z3 hK) _ _ _ _ hK
    · replace hK := mm_ip hc hK
      refine mm_aload_n C (pc := 53) 0 dX0_speaksWith_53 rfl ?_
      refine mm_iload_n C (pc := 54) 2 dX0_speaksWith_54 rfl ?_
      refine mm_iconst C (pc := 55) (v := (0 : Int32)) dX0_speaksWith_55 (by decide) ?_
      replace hK := mm_b2s hK; obtain ⟨v56, h56, e56, hK⟩ := hK
      obtain ⟨o56, e56⟩ := cV_some e56
      refine mm_callV C (pc := 56) (d1 := 1) (As := [.int l2, .int (0 : Int32)]) (st := []) (vk := (some (.int v56))) ((S_X0_fact (by omega)) e56) tT_X0_fact o56 (Or.inr ⟨_, rfl, rfl⟩) wd_960 wd_961 wd_962 (by omega) (by decide) rfl (by simp [mm_crf, mm_cti, mm_ctl]) rfl dX0_speaksWith_56 ?_
      show V _ _ (.int v56 :: _) _
      cases hK
      exact mm_iret C (pc := 59) rfl dX0_speaksWith_59 rfl rfl
def F_X0_speaksWith_2 : Nat → Option Nat → Int32 → Int32 → MH → Option (Int32 × MH)
  | 0 => fun _ _ _ _ => none
  | n + 1 => fun l0 l1 l2 h => mm_b2 (cV h l0 0 (F_X0_calls l0 h)) fun v4 h4 => if v4 ≤ l2 then (some (((-1) : Int32), h4)) else (mm_b2 (cV h4 l0 0 (F_X0_isOn l0 l2 h4)) fun v12 h12 => if v12 = 0 then (F_X0_speaksWith_35 (F_X0_speaksWith_2 n) l0 l1 l2 h12) else (mm_b2 (cV h12 l0 0 (F_X0_fact l0 l2 (0 : Int32) h12)) fun v21 h21 => if v21 = l1 then (mm_b2 (cV h21 l0 0 (F_X0_fact l0 l2 (5 : Int32) h21)) fun v31 h31 => some (v31, h31)) else (F_X0_speaksWith_35 (F_X0_speaksWith_2 n) l0 l1 l2 h21)))
set_option maxRecDepth 20000 in
set_option maxHeartbeats 4000000 in
theorem w_X0_speaksWith_2 {d : Nat} {V : Nat → List (Nat × Value) → List Value → MH → Prop} {r : Int32} {hz : MH} (hd : 3 ≤ d) (C : mm_C d yX0_speaksWith cX0_speaksWith 3 (some .int) (.inr (some (.int r))) hz V) : ∀ (n : Nat) (l0 : Option Nat) (l1 : Int32) (l2 : Int32) (h : MH), F_X0_speaksWith_2 n l0 l1 l2 h = some (r, hz) → V 2 [(0, va_rf l0), (1, .int l1), (2, .int l2)] [] h := by
  intro n
  induction n with
  | zero => intro l0 l1 l2 h hK; cases hK
  | succ n ih =>
    intro l0 l1 l2 h hK
    replace hK : (mm_b2 (cV h l0 0 (F_X0_calls l0 h)) fun v4 h4 => if v4 ≤ l2 then (some (((-1) : Int32), h4)) else (mm_b2 (cV h4 l0 0 (F_X0_isOn l0 l2 h4)) fun v12 h12 => if v12 = 0 then (F_X0_speaksWith_35 (F_X0_speaksWith_2 n) l0 l1 l2 h12) else (mm_b2 (cV h12 l0 0 (F_X0_fact l0 l2 (0 : Int32) h12)) fun v21 h21 => if v21 = l1 then (mm_b2 (cV h21 l0 0 (F_X0_fact l0 l2 (5 : Int32) h21)) fun v31 h31 => some (v31, h31)) else (F_X0_speaksWith_35 (F_X0_speaksWith_2 n) l0 l1 l2 h21)))) = some (r, hz) := hK
    refine mm_iload_n C (pc := 2) 2 dX0_speaksWith_2 rfl ?_
    refine mm_aload_n C (pc := 3) 0 dX0_speaksWith_3 rfl ?_
    replace hK := mm_b2s hK; obtain ⟨v4, h4, e4, hK⟩ := hK
    obtain ⟨o4, e4⟩ := cV_some e4
    refine mm_callV C (pc := 4) (d1 := 1) (As := []) (st := [.int l2]) (vk := (some (.int v4))) ((S_X0_calls (by omega)) e4) tT_X0_calls o4 (Or.inr ⟨_, rfl, rfl⟩) wd_918 wd_919 wd_920 (by omega) (by decide) rfl (by simp [mm_crf, mm_cti, mm_ctl]) rfl dX0_speaksWith_4 ?_
    show V _ _ (.int v4 :: _) _
    refine mm_icmp_ge C (pc := 7) (tgt := 66) dX0_speaksWith_7 (by decide) (fun hc => ?_) (fun hc => ?_)
    · replace hK := mm_ip hc hK
      refine mm_iconst C (pc := 66) (v := ((-1) : Int32)) dX0_speaksWith_66 (by decide) ?_
      cases hK
      exact mm_iret C (pc := 67) rfl dX0_speaksWith_67 rfl rfl
    · replace hK := mm_in hc hK
      refine mm_aload_n C (pc := 10) 0 dX0_speaksWith_10 rfl ?_
      refine mm_iload_n C (pc := 11) 2 dX0_speaksWith_11 rfl ?_
      replace hK := mm_b2s hK; obtain ⟨v12, h12, e12, hK⟩ := hK
      obtain ⟨o12, e12⟩ := cV_some e12
      refine mm_callV C (pc := 12) (d1 := 2) (As := [.int l2]) (st := []) (vk := (some (.int v12))) ((S_X0_isOn (by omega)) e12) tT_X0_isOn o12 (Or.inr ⟨_, rfl, rfl⟩) wd_956 wd_957 wd_958 (by omega) (by decide) rfl (by simp [mm_crf, mm_cti, mm_ctl]) rfl dX0_speaksWith_12 ?_
      show V _ _ (.int v12 :: _) _
      refine mm_if_eq C (pc := 15) (tgt := 35) dX0_speaksWith_15 (by decide) (fun hc => ?_) (fun hc => ?_)
      · replace hK := mm_ip hc hK
        exact w_X0_speaksWith_35 hd C (fun z0 z1 z2 z3 hK => ih z0 z1 z2 z3 hK) _ _ _ _ hK
      · replace hK := mm_in hc hK
        refine mm_aload_n C (pc := 18) 0 dX0_speaksWith_18 rfl ?_
        refine mm_iload_n C (pc := 19) 2 dX0_speaksWith_19 rfl ?_
        refine mm_iconst C (pc := 20) (v := (0 : Int32)) dX0_speaksWith_20 (by decide) ?_
        replace hK := mm_b2s hK; obtain ⟨v21, h21, e21, hK⟩ := hK
        obtain ⟨o21, e21⟩ := cV_some e21
        refine mm_callV C (pc := 21) (d1 := 1) (As := [.int l2, .int (0 : Int32)]) (st := []) (vk := (some (.int v21))) ((S_X0_fact (by omega)) e21) tT_X0_fact o21 (Or.inr ⟨_, rfl, rfl⟩) wd_960 wd_961 wd_962 (by omega) (by decide) rfl (by simp [mm_crf, mm_cti, mm_ctl]) rfl dX0_speaksWith_21 ?_
        show V _ _ (.int v21 :: _) _
        refine mm_iload_n C (pc := 24) 1 dX0_speaksWith_24 rfl ?_
        refine mm_icmp_ne C (pc := 25) (tgt := 35) dX0_speaksWith_25 (by decide) (fun hc => ?_) (fun hc => ?_)
        · replace hK := mm_in hc hK
          exact w_X0_speaksWith_35 hd C (fun z0 z1 z2 z3 hK => ih z0 z1 z2 z3 hK) _ _ _ _ hK
        · replace hK := mm_ip hc hK
          refine mm_aload_n C (pc := 28) 0 dX0_speaksWith_28 rfl ?_
          refine mm_iload_n C (pc := 29) 2 dX0_speaksWith_29 rfl ?_
          refine mm_iconst C (pc := 30) (v := (5 : Int32)) dX0_speaksWith_30 (by decide) ?_
          replace hK := mm_b2s hK; obtain ⟨v31, h31, e31, hK⟩ := hK
          obtain ⟨o31, e31⟩ := cV_some e31
          refine mm_callV C (pc := 31) (d1 := 1) (As := [.int l2, .int (5 : Int32)]) (st := []) (vk := (some (.int v31))) ((S_X0_fact (by omega)) e31) tT_X0_fact o31 (Or.inr ⟨_, rfl, rfl⟩) wd_960 wd_961 wd_962 (by omega) (by decide) rfl (by simp [mm_crf, mm_cti, mm_ctl]) rfl dX0_speaksWith_31 ?_
          show V _ _ (.int v31 :: _) _
          cases hK
          exact mm_iret C (pc := 34) rfl dX0_speaksWith_34 rfl rfl
def F_X0_speaksWith (a0 : Option Nat) (a1 : Int32) (h : MH) : Option (Int32 × MH) := F_X0_speaksWith_2 mm_N a0 a1 (0 : Int32) h
set_option maxRecDepth 20000 in
set_option maxHeartbeats 4000000 in
theorem S_X0_speaksWith {d : Nat} (hd : 3 ≤ d) {a0 : Option Nat} {a1 : Int32} {h : MH} {r : Int32} {hz : MH} (hK : F_X0_speaksWith a0 a1 h = some (r, hz)) : mm_M yX0_speaksWith cX0_speaksWith 3 (some .int) d [va_rf a0, .int a1] h (.inr (some (.int r))) hz := by
  refine mm_ofV (by decide +kernel) (by simp [lg_sl, mm_crf, mm_cti, mm_ctl]) (fun V C => ?_)
  rw [show lv_args 0 [va_rf a0, .int a1] = [(0, va_rf a0), (1, .int a1)] by simp [lv_args, mm_crf, mm_cti, mm_ctl]]
  unfold F_X0_speaksWith at hK
  refine mm_iconst C (pc := 0) (v := (0 : Int32)) dX0_speaksWith_0 (by decide) ?_
  refine mm_istore_n C (pc := 1) (i := 2) (lv' := [(2, .int (0 : Int32)), (0, va_rf a0), (1, .int a1)]) dX0_speaksWith_1 rfl (by decide) rfl ?_
  refine mm_sub C [1, 2, 0] rfl ?_
  exact w_X0_speaksWith_2 hd C _ _ _ _ _ hK
theorem wd_775 : Cond.fieldLink RX0 58 "CrossedLines$Plan" "lines" "I" ∈ lw_good := mm_wd 775 (by decide +kernel) (by decide +kernel)
def F_X0_isLine_26 (s0 : Int32) (h : MH) : Option (Int32 × MH) := rZ s0 h
set_option maxRecDepth 20000 in
set_option maxHeartbeats 4000000 in
theorem w_X0_isLine_26 {d : Nat} {V : Nat → List (Nat × Value) → List Value → MH → Prop} {r : Int32} {hz : MH} (hd : 1 ≤ d) (C : mm_C d yX0_isLine cX0_isLine 2 (some .boolean) (.inr (some (.int r))) hz V) (s0 : Int32) (h : MH) (hK : F_X0_isLine_26 s0 h = some (r, hz)) : V 26 [] [.int s0] h := by
  unfold F_X0_isLine_26 at hK
  replace hK := rZ_some hK; obtain ⟨hv26, hK⟩ := hK
  cases hK
  exact mm_zret C (pc := 26) rfl (mm_nrZ hv26) dX0_isLine_26 rfl rfl
def F_X0_isLine_25 (h : MH) : Option (Int32 × MH) := F_X0_isLine_26 (0 : Int32) h
set_option maxRecDepth 20000 in
set_option maxHeartbeats 4000000 in
theorem w_X0_isLine_25 {d : Nat} {V : Nat → List (Nat × Value) → List Value → MH → Prop} {r : Int32} {hz : MH} (hd : 1 ≤ d) (C : mm_C d yX0_isLine cX0_isLine 2 (some .boolean) (.inr (some (.int r))) hz V) (h : MH) (hK : F_X0_isLine_25  h = some (r, hz)) : V 25 [] [] h := by
  unfold F_X0_isLine_25 at hK
  refine mm_iconst C (pc := 25) (v := (0 : Int32)) dX0_isLine_25 (by decide) ?_
  exact w_X0_isLine_26 hd C _ _ hK
def F_X0_isLine (a0 : Option Nat) (a1 : Int32) (h : MH) : Option (Int32 × MH) := if a1 < 0 then (F_X0_isLine_25 h) else ((gR h a0 0 2).bind fun v6 => (gI h v6 8 0).bind fun v9 => if v9 ≤ a1 then (F_X0_isLine_25 h) else (if (8 : Int32) ≤ a1 then (F_X0_isLine_25 h) else (F_X0_isLine_26 (1 : Int32) h)))
set_option maxRecDepth 20000 in
set_option maxHeartbeats 4000000 in
theorem S_X0_isLine {d : Nat} (hd : 1 ≤ d) {a0 : Option Nat} {a1 : Int32} {h : MH} {r : Int32} {hz : MH} (hK : F_X0_isLine a0 a1 h = some (r, hz)) : mm_M yX0_isLine cX0_isLine 2 (some .boolean) d [va_rf a0, .int a1] h (.inr (some (.int r))) hz := by
  refine mm_ofV (by decide +kernel) (by simp [lg_sl, mm_crf, mm_cti, mm_ctl]) (fun V C => ?_)
  rw [show lv_args 0 [va_rf a0, .int a1] = [(0, va_rf a0), (1, .int a1)] by simp [lv_args, mm_crf, mm_cti, mm_ctl]]
  unfold F_X0_isLine at hK
  refine mm_iload_n C (pc := 0) 1 dX0_isLine_0 rfl ?_
  refine mm_if_lt C (pc := 1) (tgt := 25) dX0_isLine_1 (by decide) (fun hc => ?_) (fun hc => ?_)
  · replace hK := mm_ip hc hK
    refine mm_sub C [] rfl ?_
    exact w_X0_isLine_25 hd C _ hK
  · replace hK := mm_in hc hK
    refine mm_iload_n C (pc := 4) 1 dX0_isLine_4 rfl ?_
    refine mm_aload_n C (pc := 5) 0 dX0_isLine_5 rfl ?_
    replace hK := mm_bd hK; obtain ⟨v6, e6, hK⟩ := hK
    refine mm_getr C (pc := 6) (k := 2) inGX0 rfl (by decide) wd_818 dX0_isLine_6 e6 ?_
    replace hK := mm_bd hK; obtain ⟨v9, e9, hK⟩ := hK
    refine mm_geti C (pc := 9) (k := 0) inGX8 rfl (by decide) wd_775 dX0_isLine_9 e9 ?_
    refine mm_icmp_ge C (pc := 12) (tgt := 25) dX0_isLine_12 (by decide) (fun hc => ?_) (fun hc => ?_)
    · replace hK := mm_ip hc hK
      refine mm_sub C [] rfl ?_
      exact w_X0_isLine_25 hd C _ hK
    · replace hK := mm_in hc hK
      refine mm_iload_n C (pc := 15) 1 dX0_isLine_15 rfl ?_
      refine mm_bipush C (pc := 16) (v := (8 : Int32)) dX0_isLine_16 (by decide) ?_
      refine mm_icmp_ge C (pc := 18) (tgt := 25) dX0_isLine_18 (by decide) (fun hc => ?_) (fun hc => ?_)
      · replace hK := mm_ip hc hK
        refine mm_sub C [] rfl ?_
        exact w_X0_isLine_25 hd C _ hK
      · replace hK := mm_in hc hK
        refine mm_iconst C (pc := 21) (v := (1 : Int32)) dX0_isLine_21 (by decide) ?_
        refine mm_goto C (pc := 22) (tgt := 26) dX0_isLine_22 (by decide) ?_
        refine mm_sub C [] rfl ?_
        exact w_X0_isLine_26 hd C _ _ hK
theorem wd_917 : Cond.code yX0_isLine cX0_isLine 2 (some .boolean) ∈ lw_good := mm_wd 917 (by decide +kernel) (by decide +kernel)
theorem tT_X0_isLine : mm_T yX0_isLine cX0_isLine 2 (some .boolean) 1 := ⟨wd_917, wd_150, by decide +kernel, by decide +kernel, by decide +kernel, by decide +kernel⟩
theorem wd_914 : Cond.methodLink RX0 81 yX0_isLine ∈ lw_good := mm_wd 914 (by decide +kernel) (by decide +kernel)
theorem wd_916 : Cond.instanceMethod yX0_isLine ∈ lw_good := mm_wd 916 (by decide +kernel) (by decide +kernel)
theorem wd_4 : Cond.selects RX0 yX0_isLine yX0_isLine ∈ lw_good := mm_wd 4 (by decide +kernel) (by decide +kernel)
def F_X0_spouse_20 (s0 : Int32) (h : MH) : Option (Int32 × MH) := some (s0, h)
set_option maxRecDepth 20000 in
set_option maxHeartbeats 4000000 in
theorem w_X0_spouse_20 {d : Nat} {V : Nat → List (Nat × Value) → List Value → MH → Prop} {r : Int32} {hz : MH} (hd : 2 ≤ d) (C : mm_C d yX0_spouse cX0_spouse 2 (some .int) (.inr (some (.int r))) hz V) (s0 : Int32) (h : MH) (hK : F_X0_spouse_20 s0 h = some (r, hz)) : V 20 [] [.int s0] h := by
  unfold F_X0_spouse_20 at hK
  cases hK
  exact mm_iret C (pc := 20) rfl dX0_spouse_20 rfl rfl
def F_X0_spouse (a0 : Option Nat) (a1 : Int32) (h : MH) : Option (Int32 × MH) := mm_b2 (cV h a0 0 (F_X0_isLine a0 a1 h)) fun v2 h2 => if v2 = 0 then (F_X0_spouse_20 ((-1) : Int32) h2) else ((gR h2 a0 0 0).bind fun v9 => (aI h2 v9 0 ((3 : Int32) + a1)).bind fun v15 => F_X0_spouse_20 v15 h2)
set_option maxRecDepth 20000 in
set_option maxHeartbeats 4000000 in
theorem S_X0_spouse {d : Nat} (hd : 2 ≤ d) {a0 : Option Nat} {a1 : Int32} {h : MH} {r : Int32} {hz : MH} (hK : F_X0_spouse a0 a1 h = some (r, hz)) : mm_M yX0_spouse cX0_spouse 2 (some .int) d [va_rf a0, .int a1] h (.inr (some (.int r))) hz := by
  refine mm_ofV (by decide +kernel) (by simp [lg_sl, mm_crf, mm_cti, mm_ctl]) (fun V C => ?_)
  rw [show lv_args 0 [va_rf a0, .int a1] = [(0, va_rf a0), (1, .int a1)] by simp [lv_args, mm_crf, mm_cti, mm_ctl]]
  unfold F_X0_spouse at hK
  refine mm_aload_n C (pc := 0) 0 dX0_spouse_0 rfl ?_
  refine mm_iload_n C (pc := 1) 1 dX0_spouse_1 rfl ?_
  replace hK := mm_b2s hK; obtain ⟨v2, h2, e2, hK⟩ := hK
  obtain ⟨o2, e2⟩ := cV_some e2
  refine mm_callV C (pc := 2) (d1 := 1) (As := [.int a1]) (st := []) (vk := (some (.int v2))) ((S_X0_isLine (by omega)) e2) tT_X0_isLine o2 (Or.inr ⟨_, rfl, rfl⟩) wd_914 wd_916 wd_4 (by omega) (by decide) rfl (by simp [mm_crf, mm_cti, mm_ctl]) rfl dX0_spouse_2 ?_
  show V _ _ (.int v2 :: _) _
  refine mm_if_eq C (pc := 5) (tgt := 19) dX0_spouse_5 (by decide) (fun hc => ?_) (fun hc => ?_)
  · replace hK := mm_ip hc hK
    refine mm_iconst C (pc := 19) (v := ((-1) : Int32)) dX0_spouse_19 (by decide) ?_
    refine mm_sub C [] rfl ?_
    exact w_X0_spouse_20 hd C _ _ hK
  · replace hK := mm_in hc hK
    refine mm_aload_n C (pc := 8) 0 dX0_spouse_8 rfl ?_
    replace hK := mm_bd hK; obtain ⟨v9, e9, hK⟩ := hK
    refine mm_getr C (pc := 9) (k := 0) inGX0 rfl (by decide) wd_816 dX0_spouse_9 e9 ?_
    refine mm_iconst C (pc := 12) (v := (3 : Int32)) dX0_spouse_12 (by decide) ?_
    refine mm_iload_n C (pc := 13) 1 dX0_spouse_13 rfl ?_
    refine mm_iadd C (pc := 14) dX0_spouse_14 ?_
    replace hK := mm_bd hK; obtain ⟨v15, e15, hK⟩ := hK
    refine mm_iald C (pc := 15) dX0_spouse_15 e15 ?_
    refine mm_goto C (pc := 16) (tgt := 20) dX0_spouse_16 (by decide) ?_
    refine mm_sub C [] rfl ?_
    exact w_X0_spouse_20 hd C _ _ hK
def F_X0_isShut_27 (s0 : Int32) (h : MH) : Option (Int32 × MH) := rZ s0 h
set_option maxRecDepth 20000 in
set_option maxHeartbeats 4000000 in
theorem w_X0_isShut_27 {d : Nat} {V : Nat → List (Nat × Value) → List Value → MH → Prop} {r : Int32} {hz : MH} (hd : 2 ≤ d) (C : mm_C d yX0_isShut cX0_isShut 2 (some .boolean) (.inr (some (.int r))) hz V) (s0 : Int32) (h : MH) (hK : F_X0_isShut_27 s0 h = some (r, hz)) : V 27 [] [.int s0] h := by
  unfold F_X0_isShut_27 at hK
  replace hK := rZ_some hK; obtain ⟨hv27, hK⟩ := hK
  cases hK
  exact mm_zret C (pc := 27) rfl (mm_nrZ hv27) dX0_isShut_27 rfl rfl
def F_X0_isShut_26 (h : MH) : Option (Int32 × MH) := F_X0_isShut_27 (0 : Int32) h
set_option maxRecDepth 20000 in
set_option maxHeartbeats 4000000 in
theorem w_X0_isShut_26 {d : Nat} {V : Nat → List (Nat × Value) → List Value → MH → Prop} {r : Int32} {hz : MH} (hd : 2 ≤ d) (C : mm_C d yX0_isShut cX0_isShut 2 (some .boolean) (.inr (some (.int r))) hz V) (h : MH) (hK : F_X0_isShut_26  h = some (r, hz)) : V 26 [] [] h := by
  unfold F_X0_isShut_26 at hK
  refine mm_iconst C (pc := 26) (v := (0 : Int32)) dX0_isShut_26 (by decide) ?_
  exact w_X0_isShut_27 hd C _ _ hK
def F_X0_isShut (a0 : Option Nat) (a1 : Int32) (h : MH) : Option (Int32 × MH) := mm_b2 (cV h a0 0 (F_X0_isLine a0 a1 h)) fun v2 h2 => if v2 = 0 then (F_X0_isShut_26 h2) else ((gR h2 a0 0 0).bind fun v9 => (aI h2 v9 0 (2 : Int32)).bind fun v13 => if ((v13 >>> (a1 &&& 31)) &&& (1 : Int32)) = (1 : Int32) then (F_X0_isShut_27 (1 : Int32) h2) else (F_X0_isShut_26 h2))
set_option maxRecDepth 20000 in
set_option maxHeartbeats 4000000 in
theorem S_X0_isShut {d : Nat} (hd : 2 ≤ d) {a0 : Option Nat} {a1 : Int32} {h : MH} {r : Int32} {hz : MH} (hK : F_X0_isShut a0 a1 h = some (r, hz)) : mm_M yX0_isShut cX0_isShut 2 (some .boolean) d [va_rf a0, .int a1] h (.inr (some (.int r))) hz := by
  refine mm_ofV (by decide +kernel) (by simp [lg_sl, mm_crf, mm_cti, mm_ctl]) (fun V C => ?_)
  rw [show lv_args 0 [va_rf a0, .int a1] = [(0, va_rf a0), (1, .int a1)] by simp [lv_args, mm_crf, mm_cti, mm_ctl]]
  unfold F_X0_isShut at hK
  refine mm_aload_n C (pc := 0) 0 dX0_isShut_0 rfl ?_
  refine mm_iload_n C (pc := 1) 1 dX0_isShut_1 rfl ?_
  replace hK := mm_b2s hK; obtain ⟨v2, h2, e2, hK⟩ := hK
  obtain ⟨o2, e2⟩ := cV_some e2
  refine mm_callV C (pc := 2) (d1 := 1) (As := [.int a1]) (st := []) (vk := (some (.int v2))) ((S_X0_isLine (by omega)) e2) tT_X0_isLine o2 (Or.inr ⟨_, rfl, rfl⟩) wd_914 wd_916 wd_4 (by omega) (by decide) rfl (by simp [mm_crf, mm_cti, mm_ctl]) rfl dX0_isShut_2 ?_
  show V _ _ (.int v2 :: _) _
  refine mm_if_eq C (pc := 5) (tgt := 26) dX0_isShut_5 (by decide) (fun hc => ?_) (fun hc => ?_)
  · replace hK := mm_ip hc hK
    refine mm_sub C [] rfl ?_
    exact w_X0_isShut_26 hd C _ hK
  · replace hK := mm_in hc hK
    refine mm_aload_n C (pc := 8) 0 dX0_isShut_8 rfl ?_
    replace hK := mm_bd hK; obtain ⟨v9, e9, hK⟩ := hK
    refine mm_getr C (pc := 9) (k := 0) inGX0 rfl (by decide) wd_816 dX0_isShut_9 e9 ?_
    refine mm_iconst C (pc := 12) (v := (2 : Int32)) dX0_isShut_12 (by decide) ?_
    replace hK := mm_bd hK; obtain ⟨v13, e13, hK⟩ := hK
    refine mm_iald C (pc := 13) dX0_isShut_13 e13 ?_
    refine mm_iload_n C (pc := 14) 1 dX0_isShut_14 rfl ?_
    refine mm_ishr C (pc := 15) dX0_isShut_15 ?_
    refine mm_iconst C (pc := 16) (v := (1 : Int32)) dX0_isShut_16 (by decide) ?_
    refine mm_iand C (pc := 17) dX0_isShut_17 ?_
    refine mm_iconst C (pc := 18) (v := (1 : Int32)) dX0_isShut_18 (by decide) ?_
    refine mm_icmp_ne C (pc := 19) (tgt := 26) dX0_isShut_19 (by decide) (fun hc => ?_) (fun hc => ?_)
    · replace hK := mm_in hc hK
      refine mm_sub C [] rfl ?_
      exact w_X0_isShut_26 hd C _ hK
    · replace hK := mm_ip hc hK
      refine mm_iconst C (pc := 22) (v := (1 : Int32)) dX0_isShut_22 (by decide) ?_
      refine mm_goto C (pc := 23) (tgt := 27) dX0_isShut_23 (by decide) ?_
      refine mm_sub C [] rfl ?_
      exact w_X0_isShut_27 hd C _ _ hK
theorem wd_1433 : Cond.code yX11_needLine cX11_needLine 2 none ∈ lw_good := mm_wd 1433 (by decide +kernel) (by decide +kernel)
theorem tT_X11_needLine : mm_T yX11_needLine cX11_needLine 2 none 1 := ⟨wd_1433, wd_142, by decide +kernel, by decide +kernel, by decide +kernel, by decide +kernel⟩
theorem wd_1430 : Cond.methodLink RX11 136 yX11_needLine ∈ lw_good := mm_wd 1430 (by decide +kernel) (by decide +kernel)
theorem wd_1432 : Cond.instanceMethod yX11_needLine ∈ lw_good := mm_wd 1432 (by decide +kernel) (by decide +kernel)
theorem wd_38 : Cond.selects RX11 yX11_needLine yX11_needLine ∈ lw_good := mm_wd 38 (by decide +kernel) (by decide +kernel)
theorem wd_1014 : Cond.code yX0_isShut cX0_isShut 2 (some .boolean) ∈ lw_good := mm_wd 1014 (by decide +kernel) (by decide +kernel)
theorem tT_X0_isShut : mm_T yX0_isShut cX0_isShut 2 (some .boolean) 1 := ⟨wd_1014, wd_150, by decide +kernel, by decide +kernel, by decide +kernel, by decide +kernel⟩
theorem wd_1454 : Cond.methodLink RX11 146 yX0_isShut ∈ lw_good := mm_wd 1454 (by decide +kernel) (by decide +kernel)
theorem wd_1012 : Cond.instanceMethod yX0_isShut ∈ lw_good := mm_wd 1012 (by decide +kernel) (by decide +kernel)
theorem wd_1013 : Cond.selects RX0 yX0_isShut yX0_isShut ∈ lw_good := mm_wd 1013 (by decide +kernel) (by decide +kernel)
theorem wd_1058 : Cond.code yX0_spouse cX0_spouse 2 (some .int) ∈ lw_good := mm_wd 1058 (by decide +kernel) (by decide +kernel)
theorem tT_X0_spouse : mm_T yX0_spouse cX0_spouse 2 (some .int) 1 := ⟨wd_1058, wd_150, by decide +kernel, by decide +kernel, by decide +kernel, by decide +kernel⟩
theorem wd_1126 : Cond.methodLink RX11 143 yX0_spouse ∈ lw_good := mm_wd 1126 (by decide +kernel) (by decide +kernel)
theorem wd_1056 : Cond.instanceMethod yX0_spouse ∈ lw_good := mm_wd 1056 (by decide +kernel) (by decide +kernel)
theorem wd_1057 : Cond.selects RX0 yX0_spouse yX0_spouse ∈ lw_good := mm_wd 1057 (by decide +kernel) (by decide +kernel)
theorem wd_1453 : Cond.code yX0_speaksWith cX0_speaksWith 3 (some .int) ∈ lw_good := mm_wd 1453 (by decide +kernel) (by decide +kernel)
theorem tT_X0_speaksWith : mm_T yX0_speaksWith cX0_speaksWith 3 (some .int) 1 := ⟨wd_1453, wd_150, by decide +kernel, by decide +kernel, by decide +kernel, by decide +kernel⟩
theorem wd_1450 : Cond.methodLink RX11 139 yX0_speaksWith ∈ lw_good := mm_wd 1450 (by decide +kernel) (by decide +kernel)
theorem wd_1451 : Cond.instanceMethod yX0_speaksWith ∈ lw_good := mm_wd 1451 (by decide +kernel) (by decide +kernel)
theorem wd_1452 : Cond.selects RX0 yX0_speaksWith yX0_speaksWith ∈ lw_good := mm_wd 1452 (by decide +kernel) (by decide +kernel)
def F_X11_line_54 (s0 : Int32) (h : MH) : Option ((String ⊕ Int32) × MH) := some (.inr s0, h)
set_option maxRecDepth 20000 in
set_option maxHeartbeats 4000000 in
theorem w_X11_line_54 {d : Nat} {V : Nat → List (Nat × Value) → List Value → MH → Prop} {r : String ⊕ Int32} {hz : MH} (hd : 7 ≤ d) (C : mm_C d yX11_line cX11_line 3 (some .int) (mm_oi r) hz V) (s0 : Int32) (h : MH) (hK : F_X11_line_54 s0 h = some (r, hz)) : V 54 [] [.int s0] h := by
  unfold F_X11_line_54 at hK
  cases hK
  exact mm_iret C (pc := 54) rfl dX11_line_54 rfl rfl
def F_X11_line (a0 : Option Nat) (a1 : Int32) (a2 : Int32) (h : MH) : Option ((String ⊕ Int32) × MH) := mm_b3 (cV h a0 11 (F_X11_needLine a0 a1 h)) fun _ h2 => mm_b3 (F_X11_needWithin a2 (0 : Int32) (2 : Int32) h2) fun _ h8 => if a2 = 0 then ((gR h8 a0 11 5).bind fun v16 => mm_b2 (cV h8 v16 0 (F_X0_speaksWith v16 a1 h8)) fun v20 h20 => some (.inr v20, h20)) else (if a2 = (1 : Int32) then ((gR h8 a0 11 5).bind fun v30 => mm_b2 (cV h8 v30 0 (F_X0_spouse v30 a1 h8)) fun v34 h34 => some (.inr v34, h34)) else ((gR h8 a0 11 5).bind fun v39 => mm_b2 (cV h8 v39 0 (F_X0_isShut v39 a1 h8)) fun v43 h43 => if v43 = 0 then (F_X11_line_54 (0 : Int32) h43) else (F_X11_line_54 (1 : Int32) h43)))
set_option maxRecDepth 20000 in
set_option maxHeartbeats 4000000 in
theorem S_X11_line {d : Nat} (hd : 7 ≤ d) {a0 : Option Nat} {a1 : Int32} {a2 : Int32} {h : MH} {r : String ⊕ Int32} {hz : MH} (hK : F_X11_line a0 a1 a2 h = some (r, hz)) : mm_M yX11_line cX11_line 3 (some .int) d [va_rf a0, .int a1, .int a2] h (mm_oi r) hz := by
  refine mm_ofV (by decide +kernel) (by simp [lg_sl, mm_crf, mm_cti, mm_ctl]) (fun V C => ?_)
  rw [show lv_args 0 [va_rf a0, .int a1, .int a2] = [(0, va_rf a0), (1, .int a1), (2, .int a2)] by simp [lv_args, mm_crf, mm_cti, mm_ctl]]
  unfold F_X11_line at hK
  refine mm_aload_n C (pc := 0) 0 dX11_line_0 rfl ?_
  refine mm_iload_n C (pc := 1) 1 dX11_line_1 rfl ?_
  replace hK := mm_b3s hK; rcases hK with ⟨E2, e2, rfl⟩ | ⟨v2, h2, e2, hK⟩
  · obtain ⟨o2, e2⟩ := cV_some e2
    exact mm_callVX C (pc := 2) (d1 := 6) (As := [.int a1]) (st := []) ((S_X11_needLine (by omega)) e2) tT_X11_needLine o2 (Or.inr ⟨_, rfl, rfl⟩) wd_1430 wd_1432 wd_38 (by omega) (by decide) rfl (by simp [mm_crf, mm_cti, mm_ctl]) rfl dX11_line_2 rfl rfl
  obtain ⟨o2, e2⟩ := cV_some e2
  refine mm_callV C (pc := 2) (d1 := 6) (As := [.int a1]) (st := []) (vk := none) ((S_X11_needLine (by omega)) e2) tT_X11_needLine o2 (Or.inr ⟨_, rfl, rfl⟩) wd_1430 wd_1432 wd_38 (by omega) (by decide) rfl (by simp [mm_crf, mm_cti, mm_ctl]) rfl dX11_line_2 ?_
  show V _ _ [] _
  refine mm_iload_n C (pc := 5) 2 dX11_line_5 rfl ?_
  refine mm_iconst C (pc := 6) (v := (0 : Int32)) dX11_line_6 (by decide) ?_
  refine mm_iconst C (pc := 7) (v := (2 : Int32)) dX11_line_7 (by decide) ?_
  replace hK := mm_b3s hK; rcases hK with ⟨E8, e8, rfl⟩ | ⟨v8, h8, e8, hK⟩
  · skip
    exact mm_callSX C (pc := 8) (d1 := 6) (As := [.int a2, .int (0 : Int32), .int (2 : Int32)]) (st := []) ((S_X11_needWithin (by omega)) e8) tT_X11_needWithin wd_1163 wd_1164 (by omega) (by decide) rfl (by simp [mm_crf, mm_cti, mm_ctl]) rfl dX11_line_8 rfl rfl
  refine mm_callS C (pc := 8) (d1 := 6) (As := [.int a2, .int (0 : Int32), .int (2 : Int32)]) (st := []) (vk := none) ((S_X11_needWithin (by omega)) e8) tT_X11_needWithin wd_1163 wd_1164 (by omega) (by decide) rfl (by simp [mm_crf, mm_cti, mm_ctl]) rfl dX11_line_8 ?_
  show V _ _ [] _
  refine mm_iload_n C (pc := 11) 2 dX11_line_11 rfl ?_
  refine mm_if_ne C (pc := 12) (tgt := 24) dX11_line_12 (by decide) (fun hc => ?_) (fun hc => ?_)
  · replace hK := mm_in hc hK
    refine mm_iload_n C (pc := 24) 2 dX11_line_24 rfl ?_
    refine mm_iconst C (pc := 25) (v := (1 : Int32)) dX11_line_25 (by decide) ?_
    refine mm_icmp_ne C (pc := 26) (tgt := 38) dX11_line_26 (by decide) (fun hc => ?_) (fun hc => ?_)
    · replace hK := mm_in hc hK
      refine mm_aload_n C (pc := 38) 0 dX11_line_38 rfl ?_
      replace hK := mm_bd hK; obtain ⟨v39, e39, hK⟩ := hK
      refine mm_getr C (pc := 39) (k := 5) inGX11 rfl (by decide) wd_850 dX11_line_39 e39 ?_
      refine mm_iload_n C (pc := 42) 1 dX11_line_42 rfl ?_
      replace hK := mm_b2s hK; obtain ⟨v43, h43, e43, hK⟩ := hK
      obtain ⟨o43, e43⟩ := cV_some e43
      refine mm_callV C (pc := 43) (d1 := 2) (As := [.int a1]) (st := []) (vk := (some (.int v43))) ((S_X0_isShut (by omega)) e43) tT_X0_isShut o43 (Or.inr ⟨_, rfl, rfl⟩) wd_1454 wd_1012 wd_1013 (by omega) (by decide) rfl (by simp [mm_crf, mm_cti, mm_ctl]) rfl dX11_line_43 ?_
      show V _ _ (.int v43 :: _) _
      refine mm_if_eq C (pc := 46) (tgt := 53) dX11_line_46 (by decide) (fun hc => ?_) (fun hc => ?_)
      · replace hK := mm_ip hc hK
        refine mm_iconst C (pc := 53) (v := (0 : Int32)) dX11_line_53 (by decide) ?_
        refine mm_sub C [] rfl ?_
        exact w_X11_line_54 hd C _ _ hK
      · replace hK := mm_in hc hK
        refine mm_iconst C (pc := 49) (v := (1 : Int32)) dX11_line_49 (by decide) ?_
        refine mm_goto C (pc := 50) (tgt := 54) dX11_line_50 (by decide) ?_
        refine mm_sub C [] rfl ?_
        exact w_X11_line_54 hd C _ _ hK
    · replace hK := mm_ip hc hK
      refine mm_aload_n C (pc := 29) 0 dX11_line_29 rfl ?_
      replace hK := mm_bd hK; obtain ⟨v30, e30, hK⟩ := hK
      refine mm_getr C (pc := 30) (k := 5) inGX11 rfl (by decide) wd_850 dX11_line_30 e30 ?_
      refine mm_iload_n C (pc := 33) 1 dX11_line_33 rfl ?_
      replace hK := mm_b2s hK; obtain ⟨v34, h34, e34, hK⟩ := hK
      obtain ⟨o34, e34⟩ := cV_some e34
      refine mm_callV C (pc := 34) (d1 := 2) (As := [.int a1]) (st := []) (vk := (some (.int v34))) ((S_X0_spouse (by omega)) e34) tT_X0_spouse o34 (Or.inr ⟨_, rfl, rfl⟩) wd_1126 wd_1056 wd_1057 (by omega) (by decide) rfl (by simp [mm_crf, mm_cti, mm_ctl]) rfl dX11_line_34 ?_
      show V _ _ (.int v34 :: _) _
      cases hK
      exact mm_iret C (pc := 37) rfl dX11_line_37 rfl rfl
  · replace hK := mm_ip hc hK
    refine mm_aload_n C (pc := 15) 0 dX11_line_15 rfl ?_
    replace hK := mm_bd hK; obtain ⟨v16, e16, hK⟩ := hK
    refine mm_getr C (pc := 16) (k := 5) inGX11 rfl (by decide) wd_850 dX11_line_16 e16 ?_
    refine mm_iload_n C (pc := 19) 1 dX11_line_19 rfl ?_
    replace hK := mm_b2s hK; obtain ⟨v20, h20, e20, hK⟩ := hK
    obtain ⟨o20, e20⟩ := cV_some e20
    refine mm_callV C (pc := 20) (d1 := 3) (As := [.int a1]) (st := []) (vk := (some (.int v20))) ((S_X0_speaksWith (by omega)) e20) tT_X0_speaksWith o20 (Or.inr ⟨_, rfl, rfl⟩) wd_1450 wd_1451 wd_1452 (by omega) (by decide) rfl (by simp [mm_crf, mm_cti, mm_ctl]) rfl dX11_line_20 ?_
    show V _ _ (.int v20 :: _) _
    cases hK
    exact mm_iret C (pc := 23) rfl dX11_line_23 rfl rfl
def F_X8_reachOf_19 (s0 : Int32) (h : MH) : Option (Int32 × MH) := some (s0, h)
set_option maxRecDepth 20000 in
set_option maxHeartbeats 4000000 in
theorem w_X8_reachOf_19 {d : Nat} {V : Nat → List (Nat × Value) → List Value → MH → Prop} {r : Int32} {hz : MH} (hd : 1 ≤ d) (C : mm_C d yX8_reachOf cX8_reachOf 2 (some .int) (.inr (some (.int r))) hz V) (s0 : Int32) (h : MH) (hK : F_X8_reachOf_19 s0 h = some (r, hz)) : V 19 [] [.int s0] h := by
  unfold F_X8_reachOf_19 at hK
  cases hK
  exact mm_iret C (pc := 19) rfl dX8_reachOf_19 rfl rfl
def F_X8_reachOf_18 (h : MH) : Option (Int32 × MH) := F_X8_reachOf_19 (0 : Int32) h
set_option maxRecDepth 20000 in
set_option maxHeartbeats 4000000 in
theorem w_X8_reachOf_18 {d : Nat} {V : Nat → List (Nat × Value) → List Value → MH → Prop} {r : Int32} {hz : MH} (hd : 1 ≤ d) (C : mm_C d yX8_reachOf cX8_reachOf 2 (some .int) (.inr (some (.int r))) hz V) (h : MH) (hK : F_X8_reachOf_18  h = some (r, hz)) : V 18 [] [] h := by
  unfold F_X8_reachOf_18 at hK
  refine mm_iconst C (pc := 18) (v := (0 : Int32)) dX8_reachOf_18 (by decide) ?_
  exact w_X8_reachOf_19 hd C _ _ hK
def F_X8_reachOf (a0 : Option Nat) (a1 : Int32) (h : MH) : Option (Int32 × MH) := if a1 < 0 then (F_X8_reachOf_18 h) else (if (3 : Int32) ≤ a1 then (F_X8_reachOf_18 h) else ((gR h a0 8 3).bind fun v10 => (aI h v10 0 a1).bind fun v14 => F_X8_reachOf_19 v14 h))
set_option maxRecDepth 20000 in
set_option maxHeartbeats 4000000 in
theorem S_X8_reachOf {d : Nat} (hd : 1 ≤ d) {a0 : Option Nat} {a1 : Int32} {h : MH} {r : Int32} {hz : MH} (hK : F_X8_reachOf a0 a1 h = some (r, hz)) : mm_M yX8_reachOf cX8_reachOf 2 (some .int) d [va_rf a0, .int a1] h (.inr (some (.int r))) hz := by
  refine mm_ofV (by decide +kernel) (by simp [lg_sl, mm_crf, mm_cti, mm_ctl]) (fun V C => ?_)
  rw [show lv_args 0 [va_rf a0, .int a1] = [(0, va_rf a0), (1, .int a1)] by simp [lv_args, mm_crf, mm_cti, mm_ctl]]
  unfold F_X8_reachOf at hK
  refine mm_iload_n C (pc := 0) 1 dX8_reachOf_0 rfl ?_
  refine mm_if_lt C (pc := 1) (tgt := 18) dX8_reachOf_1 (by decide) (fun hc => ?_) (fun hc => ?_)
  · replace hK := mm_ip hc hK
    refine mm_sub C [] rfl ?_
    exact w_X8_reachOf_18 hd C _ hK
  · replace hK := mm_in hc hK
    refine mm_iload_n C (pc := 4) 1 dX8_reachOf_4 rfl ?_
    refine mm_iconst C (pc := 5) (v := (3 : Int32)) dX8_reachOf_5 (by decide) ?_
    refine mm_icmp_ge C (pc := 6) (tgt := 18) dX8_reachOf_6 (by decide) (fun hc => ?_) (fun hc => ?_)
    · replace hK := mm_ip hc hK
      refine mm_sub C [] rfl ?_
      exact w_X8_reachOf_18 hd C _ hK
    · replace hK := mm_in hc hK
      refine mm_aload_n C (pc := 9) 0 dX8_reachOf_9 rfl ?_
      replace hK := mm_bd hK; obtain ⟨v10, e10, hK⟩ := hK
      refine mm_getr C (pc := 10) (k := 3) inGX8 rfl (by decide) wd_783 dX8_reachOf_10 e10 ?_
      refine mm_iload_n C (pc := 13) 1 dX8_reachOf_13 rfl ?_
      replace hK := mm_bd hK; obtain ⟨v14, e14, hK⟩ := hK
      refine mm_iald C (pc := 14) dX8_reachOf_14 e14 ?_
      refine mm_goto C (pc := 15) (tgt := 19) dX8_reachOf_15 (by decide) ?_
      refine mm_sub C [] rfl ?_
      exact w_X8_reachOf_19 hd C _ _ hK
def F_X0_callOn_31 (k2 : Option Nat → Int32 → Int32 → MH → Option (Int32 × MH)) (l0 : Option Nat) (l1 : Int32) (l2 : Int32) (h : MH) : Option (Int32 × MH) := k2 l0 l1 (l2 + (1 : Int32)) h
set_option maxRecDepth 20000 in
set_option maxHeartbeats 4000000 in
theorem w_X0_callOn_31 {d : Nat} {V : Nat → List (Nat × Value) → List Value → MH → Prop} {r : Int32} {hz : MH} {k2 : Option Nat → Int32 → Int32 → MH → Option (Int32 × MH)} (hd : 3 ≤ d) (C : mm_C d yX0_callOn cX0_callOn 3 (some .int) (.inr (some (.int r))) hz V) (q2 : ∀ (x0 : Option Nat) (x1 : Int32) (x2 : Int32) (h : MH), k2 x0 x1 x2 h = some (r, hz) → V 2 [(0, va_rf x0), (1, .int x1), (2, .int x2)] [] h) (l0 : Option Nat) (l1 : Int32) (l2 : Int32) (h : MH) (hK : F_X0_callOn_31 k2 l0 l1 l2 h = some (r, hz)) : V 31 [(0, va_rf l0), (1, .int l1), (2, .int l2)] [] h := by
  unfold F_X0_callOn_31 at hK
  refine mm_iinc C (pc := 31) (v := (l2 + (1 : Int32))) (lv' := [(2, .int (l2 + (1 : Int32))), (0, va_rf l0), (1, .int l1)]) 2 dX0_callOn_31 rfl rfl (by decide) rfl ?_
  refine mm_goto C (pc := 34) (tgt := 2) dX0_callOn_34 (by decide) ?_
  refine mm_sub C [1, 2, 0] rfl ?_
  exact q2 _ _ _ _ hK
def F_X0_callOn_2 : Nat → Option Nat → Int32 → Int32 → MH → Option (Int32 × MH)
  | 0 => fun _ _ _ _ => none
  | n + 1 => fun l0 l1 l2 h => mm_b2 (cV h l0 0 (F_X0_calls l0 h)) fun v4 h4 => if v4 ≤ l2 then (some (((-1) : Int32), h4)) else (mm_b2 (cV h4 l0 0 (F_X0_isOn l0 l2 h4)) fun v12 h12 => if v12 = 0 then (F_X0_callOn_31 (F_X0_callOn_2 n) l0 l1 l2 h12) else (mm_b2 (cV h12 l0 0 (F_X0_fact l0 l2 (6 : Int32) h12)) fun v22 h22 => if v22 = l1 then (some (l2, h22)) else (F_X0_callOn_31 (F_X0_callOn_2 n) l0 l1 l2 h22)))
set_option maxRecDepth 20000 in
set_option maxHeartbeats 4000000 in
theorem w_X0_callOn_2 {d : Nat} {V : Nat → List (Nat × Value) → List Value → MH → Prop} {r : Int32} {hz : MH} (hd : 3 ≤ d) (C : mm_C d yX0_callOn cX0_callOn 3 (some .int) (.inr (some (.int r))) hz V) : ∀ (n : Nat) (l0 : Option Nat) (l1 : Int32) (l2 : Int32) (h : MH), F_X0_callOn_2 n l0 l1 l2 h = some (r, hz) → V 2 [(0, va_rf l0), (1, .int l1), (2, .int l2)] [] h := by
  intro n
  induction n with
  | zero => intro l0 l1 l2 h hK; cases hK
  | succ n ih =>
    intro l0 l1 l2 h hK
    replace hK : (mm_b2 (cV h l0 0 (F_X0_calls l0 h)) fun v4 h4 => if v4 ≤ l2 then (some (((-1) : Int32), h4)) else (mm_b2 (cV h4 l0 0 (F_X0_isOn l0 l2 h4)) fun v12 h12 => if v12 = 0 then (F_X0_callOn_31 (F_X0_callOn_2 n) l0 l1 l2 h12) else (mm_b2 (cV h12 l0 0 (F_X0_fact l0 l2 (6 : Int32) h12)) fun v22 h22 => if v22 = l1 then (some (l2, h22)) else (F_X0_callOn_31 (F_X0_callOn_2 n) l0 l1 l2 h22)))) = some (r, hz) := hK
    refine mm_iload_n C (pc := 2) 2 dX0_callOn_2 rfl ?_
    refine mm_aload_n C (pc := 3) 0 dX0_callOn_3 rfl ?_
    replace hK := mm_b2s hK; obtain ⟨v4, h4, e4, hK⟩ := hK
    obtain ⟨o4, e4⟩ := cV_some e4
    refine mm_callV C (pc := 4) (d1 := 1) (As := []) (st := [.int l2]) (vk := (some (.int v4))) ((S_X0_calls (by omega)) e4) tT_X0_calls o4 (Or.inr ⟨_, rfl, rfl⟩) wd_918 wd_919 wd_920 (by omega) (by decide) rfl (by simp [mm_crf, mm_cti, mm_ctl]) rfl dX0_callOn_4 ?_
    show V _ _ (.int v4 :: _) _
    refine mm_icmp_ge C (pc := 7) (tgt := 37) dX0_callOn_7 (by decide) (fun hc => ?_) (fun hc => ?_)
    · replace hK := mm_ip hc hK
      refine mm_iconst C (pc := 37) (v := ((-1) : Int32)) dX0_callOn_37 (by decide) ?_
      cases hK
      exact mm_iret C (pc := 38) rfl dX0_callOn_38 rfl rfl
    · replace hK := mm_in hc hK
      refine mm_aload_n C (pc := 10) 0 dX0_callOn_10 rfl ?_
      refine mm_iload_n C (pc := 11) 2 dX0_callOn_11 rfl ?_
      replace hK := mm_b2s hK; obtain ⟨v12, h12, e12, hK⟩ := hK
      obtain ⟨o12, e12⟩ := cV_some e12
      refine mm_callV C (pc := 12) (d1 := 2) (As := [.int l2]) (st := []) (vk := (some (.int v12))) ((S_X0_isOn (by omega)) e12) tT_X0_isOn o12 (Or.inr ⟨_, rfl, rfl⟩) wd_956 wd_957 wd_958 (by omega) (by decide) rfl (by simp [mm_crf, mm_cti, mm_ctl]) rfl dX0_callOn_12 ?_
      show V _ _ (.int v12 :: _) _
      refine mm_if_eq C (pc := 15) (tgt := 31) dX0_callOn_15 (by decide) (fun hc => ?_) (fun hc => ?_)
      · replace hK := mm_ip hc hK
        exact w_X0_callOn_31 hd C (fun z0 z1 z2 z3 hK => ih z0 z1 z2 z3 hK) _ _ _ _ hK
      · replace hK := mm_in hc hK
        refine mm_aload_n C (pc := 18) 0 dX0_callOn_18 rfl ?_
        refine mm_iload_n C (pc := 19) 2 dX0_callOn_19 rfl ?_
        refine mm_bipush C (pc := 20) (v := (6 : Int32)) dX0_callOn_20 (by decide) ?_
        replace hK := mm_b2s hK; obtain ⟨v22, h22, e22, hK⟩ := hK
        obtain ⟨o22, e22⟩ := cV_some e22
        refine mm_callV C (pc := 22) (d1 := 1) (As := [.int l2, .int (6 : Int32)]) (st := []) (vk := (some (.int v22))) ((S_X0_fact (by omega)) e22) tT_X0_fact o22 (Or.inr ⟨_, rfl, rfl⟩) wd_960 wd_961 wd_962 (by omega) (by decide) rfl (by simp [mm_crf, mm_cti, mm_ctl]) rfl dX0_callOn_22 ?_
        show V _ _ (.int v22 :: _) _
        refine mm_iload_n C (pc := 25) 1 dX0_callOn_25 rfl ?_
        refine mm_icmp_ne C (pc := 26) (tgt := 31) dX0_callOn_26 (by decide) (fun hc => ?_) (fun hc => ?_)
        · replace hK := mm_in hc hK
          exact w_X0_callOn_31 hd C (fun z0 z1 z2 z3 hK => ih z0 z1 z2 z3 hK) _ _ _ _ hK
        · replace hK := mm_ip hc hK
          refine mm_iload_n C (pc := 29) 2 dX0_callOn_29 rfl ?_
          cases hK
          exact mm_iret C (pc := 30) rfl dX0_callOn_30 rfl rfl
def F_X0_callOn (a0 : Option Nat) (a1 : Int32) (h : MH) : Option (Int32 × MH) := F_X0_callOn_2 mm_N a0 a1 (0 : Int32) h
set_option maxRecDepth 20000 in
set_option maxHeartbeats 4000000 in
theorem S_X0_callOn {d : Nat} (hd : 3 ≤ d) {a0 : Option Nat} {a1 : Int32} {h : MH} {r : Int32} {hz : MH} (hK : F_X0_callOn a0 a1 h = some (r, hz)) : mm_M yX0_callOn cX0_callOn 3 (some .int) d [va_rf a0, .int a1] h (.inr (some (.int r))) hz := by
  refine mm_ofV (by decide +kernel) (by simp [lg_sl, mm_crf, mm_cti, mm_ctl]) (fun V C => ?_)
  rw [show lv_args 0 [va_rf a0, .int a1] = [(0, va_rf a0), (1, .int a1)] by simp [lv_args, mm_crf, mm_cti, mm_ctl]]
  unfold F_X0_callOn at hK
  refine mm_iconst C (pc := 0) (v := (0 : Int32)) dX0_callOn_0 (by decide) ?_
  refine mm_istore_n C (pc := 1) (i := 2) (lv' := [(2, .int (0 : Int32)), (0, va_rf a0), (1, .int a1)]) dX0_callOn_1 rfl (by decide) rfl ?_
  refine mm_sub C [1, 2, 0] rfl ?_
  exact w_X0_callOn_2 hd C _ _ _ _ _ hK
theorem wd_779 : Cond.fieldLink RX11 150 "CrossedLines$Plan" "cords" "I" ∈ lw_good := mm_wd 779 (by decide +kernel) (by decide +kernel)
theorem wd_1470 : Cond.code yX0_callOn cX0_callOn 3 (some .int) ∈ lw_good := mm_wd 1470 (by decide +kernel) (by decide +kernel)
theorem tT_X0_callOn : mm_T yX0_callOn cX0_callOn 3 (some .int) 1 := ⟨wd_1470, wd_150, by decide +kernel, by decide +kernel, by decide +kernel, by decide +kernel⟩
theorem wd_1467 : Cond.methodLink RX11 163 yX0_callOn ∈ lw_good := mm_wd 1467 (by decide +kernel) (by decide +kernel)
theorem wd_1468 : Cond.instanceMethod yX0_callOn ∈ lw_good := mm_wd 1468 (by decide +kernel) (by decide +kernel)
theorem wd_1469 : Cond.selects RX0 yX0_callOn yX0_callOn ∈ lw_good := mm_wd 1469 (by decide +kernel) (by decide +kernel)
theorem wd_1466 : Cond.code yX8_reachOf cX8_reachOf 2 (some .int) ∈ lw_good := mm_wd 1466 (by decide +kernel) (by decide +kernel)
theorem tT_X8_reachOf : mm_T yX8_reachOf cX8_reachOf 2 (some .int) 1 := ⟨wd_1466, wd_151, by decide +kernel, by decide +kernel, by decide +kernel, by decide +kernel⟩
theorem wd_1463 : Cond.methodLink RX11 160 yX8_reachOf ∈ lw_good := mm_wd 1463 (by decide +kernel) (by decide +kernel)
theorem wd_1464 : Cond.instanceMethod yX8_reachOf ∈ lw_good := mm_wd 1464 (by decide +kernel) (by decide +kernel)
theorem wd_1465 : Cond.selects RX8 yX8_reachOf yX8_reachOf ∈ lw_good := mm_wd 1465 (by decide +kernel) (by decide +kernel)
def F_X11_cord_18 (h : MH) : Option ((String ⊕ Int32) × MH) := (tH h).bind fun h18 => some (.inl "java/util/NoSuchElementException", h18)
set_option maxRecDepth 20000 in
set_option maxHeartbeats 4000000 in
theorem w_X11_cord_18 {d : Nat} {V : Nat → List (Nat × Value) → List Value → MH → Prop} {r : String ⊕ Int32} {hz : MH} (hd : 7 ≤ d) (C : mm_C d yX11_cord cX11_cord 3 (some .int) (mm_oi r) hz V) (h : MH) (hK : F_X11_cord_18  h = some (r, hz)) : V 18 [] [] h := by
  unfold F_X11_cord_18 at hK
  replace hK := mm_bd hK; obtain ⟨h18, e18, hK⟩ := hK
  cases hK
  exact mm_throwN C (pc := 18) (i := 21) tW_X11_153_157 (by rfl) dX11_cord_18 dX11_cord_21 dX11_cord_22 dX11_cord_24 dX11_cord_27 (by omega) (by simp [mm_crf, mm_cti, mm_ctl]) rfl e18
def F_X11_cord_60 (s0 : Int32) (h : MH) : Option ((String ⊕ Int32) × MH) := some (.inr s0, h)
set_option maxRecDepth 20000 in
set_option maxHeartbeats 4000000 in
theorem w_X11_cord_60 {d : Nat} {V : Nat → List (Nat × Value) → List Value → MH → Prop} {r : String ⊕ Int32} {hz : MH} (hd : 7 ≤ d) (C : mm_C d yX11_cord cX11_cord 3 (some .int) (mm_oi r) hz V) (s0 : Int32) (h : MH) (hK : F_X11_cord_60 s0 h = some (r, hz)) : V 60 [] [.int s0] h := by
  unfold F_X11_cord_60 at hK
  cases hK
  exact mm_iret C (pc := 60) rfl dX11_cord_60 rfl rfl
def F_X11_cord (a0 : Option Nat) (a1 : Int32) (a2 : Int32) (h : MH) : Option ((String ⊕ Int32) × MH) := if a1 < 0 then (F_X11_cord_18 h) else ((gR h a0 11 5).bind fun v6 => (gR h v6 0 2).bind fun v9 => (gI h v9 8 1).bind fun v12 => if a1 < v12 then (mm_b3 (F_X11_needWithin a2 (0 : Int32) (1 : Int32) h) fun _ h31 => if a2 = 0 then ((gR h31 a0 11 5).bind fun v39 => (gR h31 v39 0 2).bind fun v42 => mm_b2 (cV h31 v42 8 (F_X8_reachOf v42 a1 h31)) fun v46 h46 => F_X11_cord_60 v46 h46) else ((gR h31 a0 11 5).bind fun v53 => mm_b2 (cV h31 v53 0 (F_X0_callOn v53 a1 h31)) fun v57 h57 => F_X11_cord_60 v57 h57)) else (F_X11_cord_18 h))
set_option maxRecDepth 20000 in
set_option maxHeartbeats 4000000 in
theorem S_X11_cord {d : Nat} (hd : 7 ≤ d) {a0 : Option Nat} {a1 : Int32} {a2 : Int32} {h : MH} {r : String ⊕ Int32} {hz : MH} (hK : F_X11_cord a0 a1 a2 h = some (r, hz)) : mm_M yX11_cord cX11_cord 3 (some .int) d [va_rf a0, .int a1, .int a2] h (mm_oi r) hz := by
  refine mm_ofV (by decide +kernel) (by simp [lg_sl, mm_crf, mm_cti, mm_ctl]) (fun V C => ?_)
  rw [show lv_args 0 [va_rf a0, .int a1, .int a2] = [(0, va_rf a0), (1, .int a1), (2, .int a2)] by simp [lv_args, mm_crf, mm_cti, mm_ctl]]
  unfold F_X11_cord at hK
  refine mm_iload_n C (pc := 0) 1 dX11_cord_0 rfl ?_
  refine mm_if_lt C (pc := 1) (tgt := 18) dX11_cord_1 (by decide) (fun hc => ?_) (fun hc => ?_)
  · replace hK := mm_ip hc hK
    refine mm_sub C [] rfl ?_
    exact w_X11_cord_18 hd C _ hK
  · replace hK := mm_in hc hK
    refine mm_iload_n C (pc := 4) 1 dX11_cord_4 rfl ?_
    refine mm_aload_n C (pc := 5) 0 dX11_cord_5 rfl ?_
    replace hK := mm_bd hK; obtain ⟨v6, e6, hK⟩ := hK
    refine mm_getr C (pc := 6) (k := 5) inGX11 rfl (by decide) wd_850 dX11_cord_6 e6 ?_
    replace hK := mm_bd hK; obtain ⟨v9, e9, hK⟩ := hK
    refine mm_getr C (pc := 9) (k := 2) inGX0 rfl (by decide) wd_819 dX11_cord_9 e9 ?_
    replace hK := mm_bd hK; obtain ⟨v12, e12, hK⟩ := hK
    refine mm_geti C (pc := 12) (k := 1) inGX8 rfl (by decide) wd_779 dX11_cord_12 e12 ?_
    refine mm_icmp_lt C (pc := 15) (tgt := 28) dX11_cord_15 (by decide) (fun hc => ?_) (fun hc => ?_)
    · replace hK := mm_ip hc hK
      refine mm_iload_n C (pc := 28) 2 dX11_cord_28 rfl ?_
      refine mm_iconst C (pc := 29) (v := (0 : Int32)) dX11_cord_29 (by decide) ?_
      refine mm_iconst C (pc := 30) (v := (1 : Int32)) dX11_cord_30 (by decide) ?_
      replace hK := mm_b3s hK; rcases hK with ⟨E31, e31, rfl⟩ | ⟨v31, h31, e31, hK⟩
      · skip
        exact mm_callSX C (pc := 31) (d1 := 6) (As := [.int a2, .int (0 : Int32), .int (1 : Int32)]) (st := []) ((S_X11_needWithin (by omega)) e31) tT_X11_needWithin wd_1163 wd_1164 (by omega) (by decide) rfl (by simp [mm_crf, mm_cti, mm_ctl]) rfl dX11_cord_31 rfl rfl
      refine mm_callS C (pc := 31) (d1 := 6) (As := [.int a2, .int (0 : Int32), .int (1 : Int32)]) (st := []) (vk := none) ((S_X11_needWithin (by omega)) e31) tT_X11_needWithin wd_1163 wd_1164 (by omega) (by decide) rfl (by simp [mm_crf, mm_cti, mm_ctl]) rfl dX11_cord_31 ?_
      show V _ _ [] _
      refine mm_iload_n C (pc := 34) 2 dX11_cord_34 rfl ?_
      refine mm_if_ne C (pc := 35) (tgt := 52) dX11_cord_35 (by decide) (fun hc => ?_) (fun hc => ?_)
      · replace hK := mm_in hc hK
        refine mm_aload_n C (pc := 52) 0 dX11_cord_52 rfl ?_
        replace hK := mm_bd hK; obtain ⟨v53, e53, hK⟩ := hK
        refine mm_getr C (pc := 53) (k := 5) inGX11 rfl (by decide) wd_850 dX11_cord_53 e53 ?_
        refine mm_iload_n C (pc := 56) 1 dX11_cord_56 rfl ?_
        replace hK := mm_b2s hK; obtain ⟨v57, h57, e57, hK⟩ := hK
        obtain ⟨o57, e57⟩ := cV_some e57
        refine mm_callV C (pc := 57) (d1 := 3) (As := [.int a1]) (st := []) (vk := (some (.int v57))) ((S_X0_callOn (by omega)) e57) tT_X0_callOn o57 (Or.inr ⟨_, rfl, rfl⟩) wd_1467 wd_1468 wd_1469 (by omega) (by decide) rfl (by simp [mm_crf, mm_cti, mm_ctl]) rfl dX11_cord_57 ?_
        show V _ _ (.int v57 :: _) _
        refine mm_sub C [] rfl ?_
        exact w_X11_cord_60 hd C _ _ hK
      · replace hK := mm_ip hc hK
        refine mm_aload_n C (pc := 38) 0 dX11_cord_38 rfl ?_
        replace hK := mm_bd hK; obtain ⟨v39, e39, hK⟩ := hK
        refine mm_getr C (pc := 39) (k := 5) inGX11 rfl (by decide) wd_850 dX11_cord_39 e39 ?_
        replace hK := mm_bd hK; obtain ⟨v42, e42, hK⟩ := hK
        refine mm_getr C (pc := 42) (k := 2) inGX0 rfl (by decide) wd_819 dX11_cord_42 e42 ?_
        refine mm_iload_n C (pc := 45) 1 dX11_cord_45 rfl ?_
        replace hK := mm_b2s hK; obtain ⟨v46, h46, e46, hK⟩ := hK
        obtain ⟨o46, e46⟩ := cV_some e46
        refine mm_callV C (pc := 46) (d1 := 1) (As := [.int a1]) (st := []) (vk := (some (.int v46))) ((S_X8_reachOf (by omega)) e46) tT_X8_reachOf o46 (Or.inr ⟨_, rfl, rfl⟩) wd_1463 wd_1464 wd_1465 (by omega) (by decide) rfl (by simp [mm_crf, mm_cti, mm_ctl]) rfl dX11_cord_46 ?_
        show V _ _ (.int v46 :: _) _
        refine mm_goto C (pc := 49) (tgt := 60) dX11_cord_49 (by decide) ?_
        refine mm_sub C [] rfl ?_
        exact w_X11_cord_60 hd C _ _ hK
    · replace hK := mm_in hc hK
      refine mm_sub C [] rfl ?_
      exact w_X11_cord_18 hd C _ hK
theorem wd_1075 : Cond.methodLink RX11 258 yX0_calls ∈ lw_good := mm_wd 1075 (by decide +kernel) (by decide +kernel)
def F_X11_needCall_15 (h : MH) : Option ((String ⊕ Unit) × MH) := (tH h).bind fun h15 => some (.inl "java/util/NoSuchElementException", h15)
set_option maxRecDepth 20000 in
set_option maxHeartbeats 4000000 in
theorem w_X11_needCall_15 {d : Nat} {V : Nat → List (Nat × Value) → List Value → MH → Prop} {r : String ⊕ Unit} {hz : MH} (hd : 6 ≤ d) (C : mm_C d yX11_needCall cX11_needCall 2 none (mm_ov r) hz V) (h : MH) (hK : F_X11_needCall_15  h = some (r, hz)) : V 15 [] [] h := by
  unfold F_X11_needCall_15 at hK
  replace hK := mm_bd hK; obtain ⟨h15, e15, hK⟩ := hK
  cases hK
  exact mm_throwNW C (pc := 15) (i := 22) tW_X11_153_157 (by rfl) dX11_needCall_15 dX11_needCall_18 dX11_needCall_19 dX11_needCall_22 dX11_needCall_25 (by omega) (by simp [mm_crf, mm_cti, mm_ctl]) rfl e15
def F_X11_needCall (a0 : Option Nat) (a1 : Int32) (h : MH) : Option ((String ⊕ Unit) × MH) := if a1 < 0 then (F_X11_needCall_15 h) else ((gR h a0 11 5).bind fun v6 => mm_b2 (cV h v6 0 (F_X0_calls v6 h)) fun v9 h9 => if a1 < v9 then (some (.inr (), h9)) else (F_X11_needCall_15 h9))
set_option maxRecDepth 20000 in
set_option maxHeartbeats 4000000 in
theorem S_X11_needCall {d : Nat} (hd : 6 ≤ d) {a0 : Option Nat} {a1 : Int32} {h : MH} {r : String ⊕ Unit} {hz : MH} (hK : F_X11_needCall a0 a1 h = some (r, hz)) : mm_M yX11_needCall cX11_needCall 2 none d [va_rf a0, .int a1] h (mm_ov r) hz := by
  refine mm_ofV (by decide +kernel) (by simp [lg_sl, mm_crf, mm_cti, mm_ctl]) (fun V C => ?_)
  rw [show lv_args 0 [va_rf a0, .int a1] = [(0, va_rf a0), (1, .int a1)] by simp [lv_args, mm_crf, mm_cti, mm_ctl]]
  unfold F_X11_needCall at hK
  refine mm_iload_n C (pc := 0) 1 dX11_needCall_0 rfl ?_
  refine mm_if_lt C (pc := 1) (tgt := 15) dX11_needCall_1 (by decide) (fun hc => ?_) (fun hc => ?_)
  · replace hK := mm_ip hc hK
    refine mm_sub C [] rfl ?_
    exact w_X11_needCall_15 hd C _ hK
  · replace hK := mm_in hc hK
    refine mm_iload_n C (pc := 4) 1 dX11_needCall_4 rfl ?_
    refine mm_aload_n C (pc := 5) 0 dX11_needCall_5 rfl ?_
    replace hK := mm_bd hK; obtain ⟨v6, e6, hK⟩ := hK
    refine mm_getr C (pc := 6) (k := 5) inGX11 rfl (by decide) wd_850 dX11_needCall_6 e6 ?_
    replace hK := mm_b2s hK; obtain ⟨v9, h9, e9, hK⟩ := hK
    obtain ⟨o9, e9⟩ := cV_some e9
    refine mm_callV C (pc := 9) (d1 := 1) (As := []) (st := [.int a1]) (vk := (some (.int v9))) ((S_X0_calls (by omega)) e9) tT_X0_calls o9 (Or.inr ⟨_, rfl, rfl⟩) wd_1075 wd_919 wd_920 (by omega) (by decide) rfl (by simp [mm_crf, mm_cti, mm_ctl]) rfl dX11_needCall_9 ?_
    show V _ _ (.int v9 :: _) _
    refine mm_icmp_lt C (pc := 12) (tgt := 26) dX11_needCall_12 (by decide) (fun hc => ?_) (fun hc => ?_)
    · replace hK := mm_ip hc hK
      cases hK
      exact mm_vret C (pc := 26) rfl dX11_needCall_26 rfl rfl
    · replace hK := mm_in hc hK
      refine mm_sub C [] rfl ?_
      exact w_X11_needCall_15 hd C _ hK
theorem wd_1481 : Cond.code yX11_needCall cX11_needCall 2 none ∈ lw_good := mm_wd 1481 (by decide +kernel) (by decide +kernel)
theorem tT_X11_needCall : mm_T yX11_needCall cX11_needCall 2 none 1 := ⟨wd_1481, wd_142, by decide +kernel, by decide +kernel, by decide +kernel, by decide +kernel⟩
theorem wd_1478 : Cond.methodLink RX11 166 yX11_needCall ∈ lw_good := mm_wd 1478 (by decide +kernel) (by decide +kernel)
theorem wd_1480 : Cond.instanceMethod yX11_needCall ∈ lw_good := mm_wd 1480 (by decide +kernel) (by decide +kernel)
theorem wd_39 : Cond.selects RX11 yX11_needCall yX11_needCall ∈ lw_good := mm_wd 39 (by decide +kernel) (by decide +kernel)
theorem wd_1077 : Cond.methodLink RX11 169 yX0_fact ∈ lw_good := mm_wd 1077 (by decide +kernel) (by decide +kernel)
def F_X11_call (a0 : Option Nat) (a1 : Int32) (a2 : Int32) (h : MH) : Option ((String ⊕ Int32) × MH) := mm_b3 (cV h a0 11 (F_X11_needCall a0 a1 h)) fun _ h2 => mm_b3 (F_X11_needWithin a2 (0 : Int32) (6 : Int32) h2) fun _ h9 => (gR h9 a0 11 5).bind fun v13 => mm_b2 (cV h9 v13 0 (F_X0_fact v13 a1 a2 h9)) fun v18 h18 => some (.inr v18, h18)
set_option maxRecDepth 20000 in
set_option maxHeartbeats 4000000 in
theorem S_X11_call {d : Nat} (hd : 7 ≤ d) {a0 : Option Nat} {a1 : Int32} {a2 : Int32} {h : MH} {r : String ⊕ Int32} {hz : MH} (hK : F_X11_call a0 a1 a2 h = some (r, hz)) : mm_M yX11_call cX11_call 3 (some .int) d [va_rf a0, .int a1, .int a2] h (mm_oi r) hz := by
  refine mm_ofV (by decide +kernel) (by simp [lg_sl, mm_crf, mm_cti, mm_ctl]) (fun V C => ?_)
  rw [show lv_args 0 [va_rf a0, .int a1, .int a2] = [(0, va_rf a0), (1, .int a1), (2, .int a2)] by simp [lv_args, mm_crf, mm_cti, mm_ctl]]
  unfold F_X11_call at hK
  refine mm_aload_n C (pc := 0) 0 dX11_call_0 rfl ?_
  refine mm_iload_n C (pc := 1) 1 dX11_call_1 rfl ?_
  replace hK := mm_b3s hK; rcases hK with ⟨E2, e2, rfl⟩ | ⟨v2, h2, e2, hK⟩
  · obtain ⟨o2, e2⟩ := cV_some e2
    exact mm_callVX C (pc := 2) (d1 := 6) (As := [.int a1]) (st := []) ((S_X11_needCall (by omega)) e2) tT_X11_needCall o2 (Or.inr ⟨_, rfl, rfl⟩) wd_1478 wd_1480 wd_39 (by omega) (by decide) rfl (by simp [mm_crf, mm_cti, mm_ctl]) rfl dX11_call_2 rfl rfl
  obtain ⟨o2, e2⟩ := cV_some e2
  refine mm_callV C (pc := 2) (d1 := 6) (As := [.int a1]) (st := []) (vk := none) ((S_X11_needCall (by omega)) e2) tT_X11_needCall o2 (Or.inr ⟨_, rfl, rfl⟩) wd_1478 wd_1480 wd_39 (by omega) (by decide) rfl (by simp [mm_crf, mm_cti, mm_ctl]) rfl dX11_call_2 ?_
  show V _ _ [] _
  refine mm_iload_n C (pc := 5) 2 dX11_call_5 rfl ?_
  refine mm_iconst C (pc := 6) (v := (0 : Int32)) dX11_call_6 (by decide) ?_
  refine mm_bipush C (pc := 7) (v := (6 : Int32)) dX11_call_7 (by decide) ?_
  replace hK := mm_b3s hK; rcases hK with ⟨E9, e9, rfl⟩ | ⟨v9, h9, e9, hK⟩
  · skip
    exact mm_callSX C (pc := 9) (d1 := 6) (As := [.int a2, .int (0 : Int32), .int (6 : Int32)]) (st := []) ((S_X11_needWithin (by omega)) e9) tT_X11_needWithin wd_1163 wd_1164 (by omega) (by decide) rfl (by simp [mm_crf, mm_cti, mm_ctl]) rfl dX11_call_9 rfl rfl
  refine mm_callS C (pc := 9) (d1 := 6) (As := [.int a2, .int (0 : Int32), .int (6 : Int32)]) (st := []) (vk := none) ((S_X11_needWithin (by omega)) e9) tT_X11_needWithin wd_1163 wd_1164 (by omega) (by decide) rfl (by simp [mm_crf, mm_cti, mm_ctl]) rfl dX11_call_9 ?_
  show V _ _ [] _
  refine mm_aload_n C (pc := 12) 0 dX11_call_12 rfl ?_
  replace hK := mm_bd hK; obtain ⟨v13, e13, hK⟩ := hK
  refine mm_getr C (pc := 13) (k := 5) inGX11 rfl (by decide) wd_850 dX11_call_13 e13 ?_
  refine mm_iload_n C (pc := 16) 1 dX11_call_16 rfl ?_
  refine mm_iload_n C (pc := 17) 2 dX11_call_17 rfl ?_
  replace hK := mm_b2s hK; obtain ⟨v18, h18, e18, hK⟩ := hK
  obtain ⟨o18, e18⟩ := cV_some e18
  refine mm_callV C (pc := 18) (d1 := 1) (As := [.int a1, .int a2]) (st := []) (vk := (some (.int v18))) ((S_X0_fact (by omega)) e18) tT_X0_fact o18 (Or.inr ⟨_, rfl, rfl⟩) wd_1077 wd_961 wd_962 (by omega) (by decide) rfl (by simp [mm_crf, mm_cti, mm_ctl]) rfl dX11_call_18 ?_
  show V _ _ (.int v18 :: _) _
  cases hK
  exact mm_iret C (pc := 21) rfl dX11_call_21 rfl rfl
def F_X8_liking_45 (s0 : Int32) (h : MH) : Option (Int32 × MH) := some (s0, h)
set_option maxRecDepth 20000 in
set_option maxHeartbeats 4000000 in
theorem w_X8_liking_45 {d : Nat} {V : Nat → List (Nat × Value) → List Value → MH → Prop} {r : Int32} {hz : MH} (hd : 1 ≤ d) (C : mm_C d yX8_liking cX8_liking 4 (some .int) (.inr (some (.int r))) hz V) (s0 : Int32) (h : MH) (hK : F_X8_liking_45 s0 h = some (r, hz)) : V 45 [] [.int s0] h := by
  unfold F_X8_liking_45 at hK
  cases hK
  exact mm_iret C (pc := 45) rfl dX8_liking_45 rfl rfl
def F_X8_liking_25 (l0 : Option Nat) (l1 : Int32) (l2 : Int32) (s0 : Int32) (h : MH) : Option (Int32 × MH) := if s0 = 0 then (F_X8_liking_45 (0 : Int32) h) else ((gR h l0 8 4).bind fun v31 => (aI h v31 0 ((l1 * (8 : Int32)) + l2)).bind fun v40 => F_X8_liking_45 v40 h)
set_option maxRecDepth 20000 in
set_option maxHeartbeats 4000000 in
theorem w_X8_liking_25 {d : Nat} {V : Nat → List (Nat × Value) → List Value → MH → Prop} {r : Int32} {hz : MH} (hd : 1 ≤ d) (C : mm_C d yX8_liking cX8_liking 4 (some .int) (.inr (some (.int r))) hz V) (l0 : Option Nat) (l1 : Int32) (l2 : Int32) (s0 : Int32) (h : MH) (hK : F_X8_liking_25 l0 l1 l2 s0 h = some (r, hz)) : V 25 [(0, va_rf l0), (1, .int l1), (2, .int l2)] [.int s0] h := by
  unfold F_X8_liking_25 at hK
  refine mm_istore_n C (pc := 25) (i := 3) (lv' := [(3, .int s0), (0, va_rf l0), (1, .int l1), (2, .int l2)]) dX8_liking_25 rfl (by decide) rfl ?_
  refine mm_iload_n C (pc := 26) 0 dX8_liking_26 rfl ?_
  refine mm_if_eq C (pc := 27) (tgt := 44) dX8_liking_27 (by decide) (fun hc => ?_) (fun hc => ?_)
  · replace hK := mm_ip hc hK
    refine mm_iconst C (pc := 44) (v := (0 : Int32)) dX8_liking_44 (by decide) ?_
    refine mm_sub C [] rfl ?_
    exact w_X8_liking_45 hd C _ _ hK
  · replace hK := mm_in hc hK
    refine mm_aload_n C (pc := 30) 1 dX8_liking_30 rfl ?_
    replace hK := mm_bd hK; obtain ⟨v31, e31, hK⟩ := hK
    refine mm_getr C (pc := 31) (k := 4) inGX8 rfl (by decide) wd_784 dX8_liking_31 e31 ?_
    refine mm_iload_n C (pc := 34) 2 dX8_liking_34 rfl ?_
    refine mm_bipush C (pc := 35) (v := (8 : Int32)) dX8_liking_35 (by decide) ?_
    refine mm_imul C (pc := 37) dX8_liking_37 ?_
    refine mm_iload_n C (pc := 38) 3 dX8_liking_38 rfl ?_
    refine mm_iadd C (pc := 39) dX8_liking_39 ?_
    replace hK := mm_bd hK; obtain ⟨v40, e40, hK⟩ := hK
    refine mm_iald C (pc := 40) dX8_liking_40 e40 ?_
    refine mm_goto C (pc := 41) (tgt := 45) dX8_liking_41 (by decide) ?_
    refine mm_sub C [] rfl ?_
    exact w_X8_liking_45 hd C _ _ hK
def F_X8_liking_24 (l0 : Option Nat) (l1 : Int32) (l2 : Int32) (h : MH) : Option (Int32 × MH) := F_X8_liking_25 l0 l1 l2 (0 : Int32) h
set_option maxRecDepth 20000 in
set_option maxHeartbeats 4000000 in
theorem w_X8_liking_24 {d : Nat} {V : Nat → List (Nat × Value) → List Value → MH → Prop} {r : Int32} {hz : MH} (hd : 1 ≤ d) (C : mm_C d yX8_liking cX8_liking 4 (some .int) (.inr (some (.int r))) hz V) (l0 : Option Nat) (l1 : Int32) (l2 : Int32) (h : MH) (hK : F_X8_liking_24 l0 l1 l2 h = some (r, hz)) : V 24 [(0, va_rf l0), (1, .int l1), (2, .int l2)] [] h := by
  unfold F_X8_liking_24 at hK
  refine mm_iconst C (pc := 24) (v := (0 : Int32)) dX8_liking_24 (by decide) ?_
  exact w_X8_liking_25 hd C _ _ _ _ _ hK
def F_X8_liking (a0 : Option Nat) (a1 : Int32) (a2 : Int32) (h : MH) : Option (Int32 × MH) := if a1 < 0 then (F_X8_liking_24 a0 a1 a2 h) else (if (8 : Int32) ≤ a1 then (F_X8_liking_24 a0 a1 a2 h) else (if a2 < 0 then (F_X8_liking_24 a0 a1 a2 h) else (if (8 : Int32) ≤ a2 then (F_X8_liking_24 a0 a1 a2 h) else (F_X8_liking_25 a0 a1 a2 (1 : Int32) h))))
set_option maxRecDepth 20000 in
set_option maxHeartbeats 4000000 in
theorem S_X8_liking {d : Nat} (hd : 1 ≤ d) {a0 : Option Nat} {a1 : Int32} {a2 : Int32} {h : MH} {r : Int32} {hz : MH} (hK : F_X8_liking a0 a1 a2 h = some (r, hz)) : mm_M yX8_liking cX8_liking 4 (some .int) d [va_rf a0, .int a1, .int a2] h (.inr (some (.int r))) hz := by
  refine mm_ofV (by decide +kernel) (by simp [lg_sl, mm_crf, mm_cti, mm_ctl]) (fun V C => ?_)
  rw [show lv_args 0 [va_rf a0, .int a1, .int a2] = [(0, va_rf a0), (1, .int a1), (2, .int a2)] by simp [lv_args, mm_crf, mm_cti, mm_ctl]]
  unfold F_X8_liking at hK
  refine mm_iload_n C (pc := 0) 1 dX8_liking_0 rfl ?_
  refine mm_if_lt C (pc := 1) (tgt := 24) dX8_liking_1 (by decide) (fun hc => ?_) (fun hc => ?_)
  · replace hK := mm_ip hc hK
    exact w_X8_liking_24 hd C _ _ _ _ hK
  · replace hK := mm_in hc hK
    refine mm_iload_n C (pc := 4) 1 dX8_liking_4 rfl ?_
    refine mm_bipush C (pc := 5) (v := (8 : Int32)) dX8_liking_5 (by decide) ?_
    refine mm_icmp_ge C (pc := 7) (tgt := 24) dX8_liking_7 (by decide) (fun hc => ?_) (fun hc => ?_)
    · replace hK := mm_ip hc hK
      exact w_X8_liking_24 hd C _ _ _ _ hK
    · replace hK := mm_in hc hK
      refine mm_iload_n C (pc := 10) 2 dX8_liking_10 rfl ?_
      refine mm_if_lt C (pc := 11) (tgt := 24) dX8_liking_11 (by decide) (fun hc => ?_) (fun hc => ?_)
      · replace hK := mm_ip hc hK
        exact w_X8_liking_24 hd C _ _ _ _ hK
      · replace hK := mm_in hc hK
        refine mm_iload_n C (pc := 14) 2 dX8_liking_14 rfl ?_
        refine mm_bipush C (pc := 15) (v := (8 : Int32)) dX8_liking_15 (by decide) ?_
        refine mm_icmp_ge C (pc := 17) (tgt := 24) dX8_liking_17 (by decide) (fun hc => ?_) (fun hc => ?_)
        · replace hK := mm_ip hc hK
          exact w_X8_liking_24 hd C _ _ _ _ hK
        · replace hK := mm_in hc hK
          refine mm_iconst C (pc := 20) (v := (1 : Int32)) dX8_liking_20 (by decide) ?_
          refine mm_goto C (pc := 21) (tgt := 25) dX8_liking_21 (by decide) ?_
          exact w_X8_liking_25 hd C _ _ _ _ _ hK
theorem wd_1066 : Cond.code yX8_liking cX8_liking 4 (some .int) ∈ lw_good := mm_wd 1066 (by decide +kernel) (by decide +kernel)
theorem tT_X8_liking : mm_T yX8_liking cX8_liking 4 (some .int) 2 := ⟨wd_1066, wd_151, by decide +kernel, by decide +kernel, by decide +kernel, by decide +kernel⟩
theorem wd_1132 : Cond.methodLink RX11 173 yX8_liking ∈ lw_good := mm_wd 1132 (by decide +kernel) (by decide +kernel)
theorem wd_1064 : Cond.instanceMethod yX8_liking ∈ lw_good := mm_wd 1064 (by decide +kernel) (by decide +kernel)
theorem wd_1065 : Cond.selects RX8 yX8_liking yX8_liking ∈ lw_good := mm_wd 1065 (by decide +kernel) (by decide +kernel)
def F_X11_likes (a0 : Option Nat) (a1 : Int32) (a2 : Int32) (h : MH) : Option ((String ⊕ Int32) × MH) := mm_b3 (cV h a0 11 (F_X11_needLine a0 a1 h)) fun _ h2 => mm_b3 (cV h2 a0 11 (F_X11_needLine a0 a2 h2)) fun _ h7 => (gR h7 a0 11 5).bind fun v11 => (gR h7 v11 0 2).bind fun v14 => mm_b2 (cV h7 v14 8 (F_X8_liking v14 a1 a2 h7)) fun v19 h19 => some (.inr v19, h19)
set_option maxRecDepth 20000 in
set_option maxHeartbeats 4000000 in
theorem S_X11_likes {d : Nat} (hd : 7 ≤ d) {a0 : Option Nat} {a1 : Int32} {a2 : Int32} {h : MH} {r : String ⊕ Int32} {hz : MH} (hK : F_X11_likes a0 a1 a2 h = some (r, hz)) : mm_M yX11_likes cX11_likes 3 (some .int) d [va_rf a0, .int a1, .int a2] h (mm_oi r) hz := by
  refine mm_ofV (by decide +kernel) (by simp [lg_sl, mm_crf, mm_cti, mm_ctl]) (fun V C => ?_)
  rw [show lv_args 0 [va_rf a0, .int a1, .int a2] = [(0, va_rf a0), (1, .int a1), (2, .int a2)] by simp [lv_args, mm_crf, mm_cti, mm_ctl]]
  unfold F_X11_likes at hK
  refine mm_aload_n C (pc := 0) 0 dX11_likes_0 rfl ?_
  refine mm_iload_n C (pc := 1) 1 dX11_likes_1 rfl ?_
  replace hK := mm_b3s hK; rcases hK with ⟨E2, e2, rfl⟩ | ⟨v2, h2, e2, hK⟩
  · obtain ⟨o2, e2⟩ := cV_some e2
    exact mm_callVX C (pc := 2) (d1 := 6) (As := [.int a1]) (st := []) ((S_X11_needLine (by omega)) e2) tT_X11_needLine o2 (Or.inr ⟨_, rfl, rfl⟩) wd_1430 wd_1432 wd_38 (by omega) (by decide) rfl (by simp [mm_crf, mm_cti, mm_ctl]) rfl dX11_likes_2 rfl rfl
  obtain ⟨o2, e2⟩ := cV_some e2
  refine mm_callV C (pc := 2) (d1 := 6) (As := [.int a1]) (st := []) (vk := none) ((S_X11_needLine (by omega)) e2) tT_X11_needLine o2 (Or.inr ⟨_, rfl, rfl⟩) wd_1430 wd_1432 wd_38 (by omega) (by decide) rfl (by simp [mm_crf, mm_cti, mm_ctl]) rfl dX11_likes_2 ?_
  show V _ _ [] _
  refine mm_aload_n C (pc := 5) 0 dX11_likes_5 rfl ?_
  refine mm_iload_n C (pc := 6) 2 dX11_likes_6 rfl ?_
  replace hK := mm_b3s hK; rcases hK with ⟨E7, e7, rfl⟩ | ⟨v7, h7, e7, hK⟩
  · obtain ⟨o7, e7⟩ := cV_some e7
    exact mm_callVX C (pc := 7) (d1 := 6) (As := [.int a2]) (st := []) ((S_X11_needLine (by omega)) e7) tT_X11_needLine o7 (Or.inr ⟨_, rfl, rfl⟩) wd_1430 wd_1432 wd_38 (by omega) (by decide) rfl (by simp [mm_crf, mm_cti, mm_ctl]) rfl dX11_likes_7 rfl rfl
  obtain ⟨o7, e7⟩ := cV_some e7
  refine mm_callV C (pc := 7) (d1 := 6) (As := [.int a2]) (st := []) (vk := none) ((S_X11_needLine (by omega)) e7) tT_X11_needLine o7 (Or.inr ⟨_, rfl, rfl⟩) wd_1430 wd_1432 wd_38 (by omega) (by decide) rfl (by simp [mm_crf, mm_cti, mm_ctl]) rfl dX11_likes_7 ?_
  show V _ _ [] _
  refine mm_aload_n C (pc := 10) 0 dX11_likes_10 rfl ?_
  replace hK := mm_bd hK; obtain ⟨v11, e11, hK⟩ := hK
  refine mm_getr C (pc := 11) (k := 5) inGX11 rfl (by decide) wd_850 dX11_likes_11 e11 ?_
  replace hK := mm_bd hK; obtain ⟨v14, e14, hK⟩ := hK
  refine mm_getr C (pc := 14) (k := 2) inGX0 rfl (by decide) wd_819 dX11_likes_14 e14 ?_
  refine mm_iload_n C (pc := 17) 1 dX11_likes_17 rfl ?_
  refine mm_iload_n C (pc := 18) 2 dX11_likes_18 rfl ?_
  replace hK := mm_b2s hK; obtain ⟨v19, h19, e19, hK⟩ := hK
  obtain ⟨o19, e19⟩ := cV_some e19
  refine mm_callV C (pc := 19) (d1 := 1) (As := [.int a1, .int a2]) (st := []) (vk := (some (.int v19))) ((S_X8_liking (by omega)) e19) tT_X8_liking o19 (Or.inr ⟨_, rfl, rfl⟩) wd_1132 wd_1064 wd_1065 (by omega) (by decide) rfl (by simp [mm_crf, mm_cti, mm_ctl]) rfl dX11_likes_19 ?_
  show V _ _ (.int v19 :: _) _
  cases hK
  exact mm_iret C (pc := 22) rfl dX11_likes_22 rfl rfl
theorem wd_786 : Cond.fieldLink RX0 87 "CrossedLines$Plan" "slips" "LCrossedLines$Law;" ∈ lw_good := mm_wd 786 (by decide +kernel) (by decide +kernel)
theorem wd_1033 : Cond.methodLink RX0 91 yX5_setVariables ∈ lw_good := mm_wd 1033 (by decide +kernel) (by decide +kernel)
theorem wd_1034 : Cond.methodLink RX0 97 yX5_value ∈ lw_good := mm_wd 1034 (by decide +kernel) (by decide +kernel)
theorem wd_1035 : Cond.methodLink RX0 100 yJ9_floorMod_7cf53 ∈ lw_good := mm_wd 1035 (by decide +kernel) (by decide +kernel)
theorem wd_1036 : Cond.static yJ9_floorMod_7cf53 ∈ lw_good := mm_wd 1036 (by decide +kernel) (by decide +kernel)
theorem wd_1037 : Cond.code yJ9_floorMod_7cf53 cJ9_floorMod_7cf53 3 (some .int) ∈ lw_good := mm_wd 1037 (by decide +kernel) (by decide +kernel)
def F_X0_whereTo_31 (l3 : Int32) (h : MH) : Option (Int32 × MH) := some (l3, h)
set_option maxRecDepth 20000 in
set_option maxHeartbeats 4000000 in
theorem w_X0_whereTo_31 {d : Nat} {V : Nat → List (Nat × Value) → List Value → MH → Prop} {r : Int32} {hz : MH} (hd : 3 ≤ d) (C : mm_C d yX0_whereTo cX0_whereTo 5 (some .int) (.inr (some (.int r))) hz V) (l3 : Int32) (h : MH) (hK : F_X0_whereTo_31 l3 h = some (r, hz)) : V 31 [(3, .int l3)] [] h := by
  unfold F_X0_whereTo_31 at hK
  refine mm_iload_n C (pc := 31) 0 dX0_whereTo_31 rfl ?_
  cases hK
  exact mm_iret C (pc := 32) rfl dX0_whereTo_32 rfl rfl
def F_X0_whereTo (a0 : Option Nat) (a1 : Int32) (a2 : Int32) (h : MH) : Option (Int32 × MH) := mm_b2 (cV h a0 0 (F_X0_fact a0 a1 (1 : Int32) h)) fun v3 h3 => (gR h3 a0 0 2).bind fun v8 => (gR h3 v8 8 5).bind fun v11 => if v11 = none then (F_X0_whereTo_31 v3 h3) else ((gR h3 a0 0 2).bind fun v22 => (gI h3 v22 8 0).bind fun v25 => if 0 < v25 then (mm_b2 (cV h3 a0 0 (F_X0_fact a0 a1 (0 : Int32) h3)) fun v38 h38 => (cV h38 v11 5 (F_X5_setVariables v11 v38 v3 (a2 - a2 / (60 : Int32) * (60 : Int32)) a1 h38)).bind fun h47 => mm_b2 (cV h47 v11 5 (F_X5_value v11 h47)) fun v53 h53 => (gR h53 a0 0 2).bind fun v57 => (gI h53 v57 8 0).bind fun v60 => if v60 = 0 then none else (gR h53 a0 0 2).bind fun v68 => (gI h53 v68 8 0).bind fun v71 => if v71 = 0 then none else some (((v3 + (mm_fm v53 v60)) - (v3 + (mm_fm v53 v60)) / v71 * v71), h53)) else (F_X0_whereTo_31 v3 h3))
set_option maxRecDepth 20000 in
set_option maxHeartbeats 4000000 in
theorem S_X0_whereTo {d : Nat} (hd : 3 ≤ d) {a0 : Option Nat} {a1 : Int32} {a2 : Int32} {h : MH} {r : Int32} {hz : MH} (hK : F_X0_whereTo a0 a1 a2 h = some (r, hz)) : mm_M yX0_whereTo cX0_whereTo 5 (some .int) d [va_rf a0, .int a1, .int a2] h (.inr (some (.int r))) hz := by
  refine mm_ofV (by decide +kernel) (by simp [lg_sl, mm_crf, mm_cti, mm_ctl]) (fun V C => ?_)
  rw [show lv_args 0 [va_rf a0, .int a1, .int a2] = [(0, va_rf a0), (1, .int a1), (2, .int a2)] by simp [lv_args, mm_crf, mm_cti, mm_ctl]]
  unfold F_X0_whereTo at hK
  refine mm_aload_n C (pc := 0) 0 dX0_whereTo_0 rfl ?_
  refine mm_iload_n C (pc := 1) 1 dX0_whereTo_1 rfl ?_
  refine mm_iconst C (pc := 2) (v := (1 : Int32)) dX0_whereTo_2 (by decide) ?_
  replace hK := mm_b2s hK; obtain ⟨v3, h3, e3, hK⟩ := hK
  obtain ⟨o3, e3⟩ := cV_some e3
  refine mm_callV C (pc := 3) (d1 := 1) (As := [.int a1, .int (1 : Int32)]) (st := []) (vk := (some (.int v3))) ((S_X0_fact (by omega)) e3) tT_X0_fact o3 (Or.inr ⟨_, rfl, rfl⟩) wd_960 wd_961 wd_962 (by omega) (by decide) rfl (by simp [mm_crf, mm_cti, mm_ctl]) rfl dX0_whereTo_3 ?_
  show V _ _ (.int v3 :: _) _
  refine mm_istore_n C (pc := 6) (i := 3) (lv' := [(3, .int v3), (0, va_rf a0), (1, .int a1), (2, .int a2)]) dX0_whereTo_6 rfl (by decide) rfl ?_
  refine mm_aload_n C (pc := 7) 1 dX0_whereTo_7 rfl ?_
  replace hK := mm_bd hK; obtain ⟨v8, e8, hK⟩ := hK
  refine mm_getr C (pc := 8) (k := 2) inGX0 rfl (by decide) wd_818 dX0_whereTo_8 e8 ?_
  replace hK := mm_bd hK; obtain ⟨v11, e11, hK⟩ := hK
  refine mm_getr C (pc := 11) (k := 5) inGX8 rfl (by decide) wd_786 dX0_whereTo_11 e11 ?_
  refine mm_astore C (pc := 14) (i := 4) (lv' := [(4, va_rf v11), (3, .int v3), (0, va_rf a0), (1, .int a1), (2, .int a2)]) dX0_whereTo_14 (by decide) rfl ?_
  refine mm_aload C (pc := 16) 0 dX0_whereTo_16 rfl ?_
  refine mm_ifnull C (pc := 18) (tgt := 31) dX0_whereTo_18 (by decide) (fun hc => ?_) (fun hc => ?_)
  · replace hK := mm_ip hc hK
    refine mm_sub C [1] rfl ?_
    exact w_X0_whereTo_31 hd C _ _ hK
  · replace hK := mm_in hc hK
    refine mm_aload_n C (pc := 21) 2 dX0_whereTo_21 rfl ?_
    replace hK := mm_bd hK; obtain ⟨v22, e22, hK⟩ := hK
    refine mm_getr C (pc := 22) (k := 2) inGX0 rfl (by decide) wd_818 dX0_whereTo_22 e22 ?_
    replace hK := mm_bd hK; obtain ⟨v25, e25, hK⟩ := hK
    refine mm_geti C (pc := 25) (k := 0) inGX8 rfl (by decide) wd_775 dX0_whereTo_25 e25 ?_
    refine mm_if_gt C (pc := 28) (tgt := 33) dX0_whereTo_28 (by decide) (fun hc => ?_) (fun hc => ?_)
    · replace hK := mm_ip hc hK
      refine mm_aload C (pc := 33) 0 dX0_whereTo_33 rfl ?_
      refine mm_aload_n C (pc := 35) 2 dX0_whereTo_35 rfl ?_
      refine mm_iload_n C (pc := 36) 3 dX0_whereTo_36 rfl ?_
      refine mm_iconst C (pc := 37) (v := (0 : Int32)) dX0_whereTo_37 (by decide) ?_
      replace hK := mm_b2s hK; obtain ⟨v38, h38, e38, hK⟩ := hK
      obtain ⟨o38, e38⟩ := cV_some e38
      refine mm_callV C (pc := 38) (d1 := 1) (As := [.int a1, .int (0 : Int32)]) (st := [va_rf v11]) (vk := (some (.int v38))) ((S_X0_fact (by omega)) e38) tT_X0_fact o38 (Or.inr ⟨_, rfl, rfl⟩) wd_960 wd_961 wd_962 (by omega) (by decide) rfl (by simp [mm_crf, mm_cti, mm_ctl]) rfl dX0_whereTo_38 ?_
      show V _ _ (.int v38 :: _) _
      refine mm_iload_n C (pc := 41) 1 dX0_whereTo_41 rfl ?_
      refine mm_iload_n C (pc := 42) 4 dX0_whereTo_42 rfl ?_
      refine mm_bipush C (pc := 43) (v := (60 : Int32)) dX0_whereTo_43 (by decide) ?_
      refine mm_irem C (pc := 45) dX0_whereTo_45 (by decide) ?_
      refine mm_iload_n C (pc := 46) 3 dX0_whereTo_46 rfl ?_
      replace hK := mm_bd hK; obtain ⟨h47, e47, hK⟩ := hK
      obtain ⟨o47, e47⟩ := cV_some e47
      refine mm_callV C (pc := 47) (d1 := 1) (As := [.int v38, .int v3, .int (a2 - a2 / (60 : Int32) * (60 : Int32)), .int a1]) (st := []) (vk := none) ((S_X5_setVariables (by omega)) e47) tT_X5_setVariables o47 (Or.inr ⟨_, rfl, rfl⟩) wd_1033 wd_755 wd_756 (by omega) (by decide) rfl (by simp [mm_crf, mm_cti, mm_ctl]) rfl dX0_whereTo_47 ?_
      show V _ _ [] _
      refine mm_iload_n C (pc := 50) 1 dX0_whereTo_50 rfl ?_
      refine mm_aload C (pc := 51) 0 dX0_whereTo_51 rfl ?_
      replace hK := mm_b2s hK; obtain ⟨v53, h53, e53, hK⟩ := hK
      obtain ⟨o53, e53⟩ := cV_some e53
      refine mm_callV C (pc := 53) (d1 := 2) (As := []) (st := [.int v3]) (vk := (some (.int v53))) ((S_X5_value (by omega)) e53) tT_X5_value o53 (Or.inr ⟨_, rfl, rfl⟩) wd_1034 wd_759 wd_760 (by omega) (by decide) rfl (by simp [mm_crf, mm_cti, mm_ctl]) rfl dX0_whereTo_53 ?_
      show V _ _ (.int v53 :: _) _
      refine mm_aload_n C (pc := 56) 2 dX0_whereTo_56 rfl ?_
      replace hK := mm_bd hK; obtain ⟨v57, e57, hK⟩ := hK
      refine mm_getr C (pc := 57) (k := 2) inGX0 rfl (by decide) wd_818 dX0_whereTo_57 e57 ?_
      replace hK := mm_bd hK; obtain ⟨v60, e60, hK⟩ := hK
      refine mm_geti C (pc := 60) (k := 0) inGX8 rfl (by decide) wd_775 dX0_whereTo_60 e60 ?_
      by_cases hz63 : v60 = 0
      · rw [if_pos hz63] at hK; cases hK
      replace hK := mm_in hz63 hK
      refine mm_fmod C (pc := 63) hz63 wd_1035 wd_1036 wd_152 wd_1037 (by omega) (by simp [mm_crf, mm_cti, mm_ctl]) dX0_whereTo_63 ?_
      refine mm_iadd C (pc := 66) dX0_whereTo_66 ?_
      refine mm_aload_n C (pc := 67) 2 dX0_whereTo_67 rfl ?_
      replace hK := mm_bd hK; obtain ⟨v68, e68, hK⟩ := hK
      refine mm_getr C (pc := 68) (k := 2) inGX0 rfl (by decide) wd_818 dX0_whereTo_68 e68 ?_
      replace hK := mm_bd hK; obtain ⟨v71, e71, hK⟩ := hK
      refine mm_geti C (pc := 71) (k := 0) inGX8 rfl (by decide) wd_775 dX0_whereTo_71 e71 ?_
      by_cases hz74 : v71 = 0
      · rw [if_pos hz74] at hK; cases hK
      replace hK := mm_in hz74 hK
      refine mm_irem C (pc := 74) dX0_whereTo_74 hz74 ?_
      cases hK
      exact mm_iret C (pc := 75) rfl dX0_whereTo_75 rfl rfl
    · replace hK := mm_in hc hK
      refine mm_sub C [1] rfl ?_
      exact w_X0_whereTo_31 hd C _ _ hK
theorem wd_1150 : Cond.methodLink RX11 176 yX0_minute ∈ lw_good := mm_wd 1150 (by decide +kernel) (by decide +kernel)
theorem wd_1032 : Cond.code yX0_whereTo cX0_whereTo 5 (some .int) ∈ lw_good := mm_wd 1032 (by decide +kernel) (by decide +kernel)
theorem tT_X0_whereTo : mm_T yX0_whereTo cX0_whereTo 5 (some .int) 2 := ⟨wd_1032, wd_150, by decide +kernel, by decide +kernel, by decide +kernel, by decide +kernel⟩
theorem wd_1497 : Cond.methodLink RX11 179 yX0_whereTo ∈ lw_good := mm_wd 1497 (by decide +kernel) (by decide +kernel)
theorem wd_1030 : Cond.instanceMethod yX0_whereTo ∈ lw_good := mm_wd 1030 (by decide +kernel) (by decide +kernel)
theorem wd_1031 : Cond.selects RX0 yX0_whereTo yX0_whereTo ∈ lw_good := mm_wd 1031 (by decide +kernel) (by decide +kernel)
def F_X11_comesTo (a0 : Option Nat) (a1 : Int32) (a2 : Int32) (h : MH) : Option ((String ⊕ Int32) × MH) := mm_b3 (cV h a0 11 (F_X11_needCall a0 a1 h)) fun _ h2 => mm_b3 (F_X11_needWithin a2 (0 : Int32) (999 : Int32) h2) fun _ h10 => (gR h10 a0 11 5).bind fun v14 => (gR h10 a0 11 5).bind fun v19 => mm_b2 (cV h10 v19 0 (F_X0_minute v19 h10)) fun v22 h22 => mm_b2 (cV h22 v14 0 (F_X0_whereTo v14 a1 (v22 + a2) h22)) fun v27 h27 => some (.inr v27, h27)
set_option maxRecDepth 20000 in
set_option maxHeartbeats 4000000 in
theorem S_X11_comesTo {d : Nat} (hd : 7 ≤ d) {a0 : Option Nat} {a1 : Int32} {a2 : Int32} {h : MH} {r : String ⊕ Int32} {hz : MH} (hK : F_X11_comesTo a0 a1 a2 h = some (r, hz)) : mm_M yX11_comesTo cX11_comesTo 3 (some .int) d [va_rf a0, .int a1, .int a2] h (mm_oi r) hz := by
  refine mm_ofV (by decide +kernel) (by simp [lg_sl, mm_crf, mm_cti, mm_ctl]) (fun V C => ?_)
  rw [show lv_args 0 [va_rf a0, .int a1, .int a2] = [(0, va_rf a0), (1, .int a1), (2, .int a2)] by simp [lv_args, mm_crf, mm_cti, mm_ctl]]
  unfold F_X11_comesTo at hK
  refine mm_aload_n C (pc := 0) 0 dX11_comesTo_0 rfl ?_
  refine mm_iload_n C (pc := 1) 1 dX11_comesTo_1 rfl ?_
  replace hK := mm_b3s hK; rcases hK with ⟨E2, e2, rfl⟩ | ⟨v2, h2, e2, hK⟩
  · obtain ⟨o2, e2⟩ := cV_some e2
    exact mm_callVX C (pc := 2) (d1 := 6) (As := [.int a1]) (st := []) ((S_X11_needCall (by omega)) e2) tT_X11_needCall o2 (Or.inr ⟨_, rfl, rfl⟩) wd_1478 wd_1480 wd_39 (by omega) (by decide) rfl (by simp [mm_crf, mm_cti, mm_ctl]) rfl dX11_comesTo_2 rfl rfl
  obtain ⟨o2, e2⟩ := cV_some e2
  refine mm_callV C (pc := 2) (d1 := 6) (As := [.int a1]) (st := []) (vk := none) ((S_X11_needCall (by omega)) e2) tT_X11_needCall o2 (Or.inr ⟨_, rfl, rfl⟩) wd_1478 wd_1480 wd_39 (by omega) (by decide) rfl (by simp [mm_crf, mm_cti, mm_ctl]) rfl dX11_comesTo_2 ?_
  show V _ _ [] _
  refine mm_iload_n C (pc := 5) 2 dX11_comesTo_5 rfl ?_
  refine mm_iconst C (pc := 6) (v := (0 : Int32)) dX11_comesTo_6 (by decide) ?_
  refine mm_sipush C (pc := 7) (v := (999 : Int32)) dX11_comesTo_7 (by decide) ?_
  replace hK := mm_b3s hK; rcases hK with ⟨E10, e10, rfl⟩ | ⟨v10, h10, e10, hK⟩
  · skip
    exact mm_callSX C (pc := 10) (d1 := 6) (As := [.int a2, .int (0 : Int32), .int (999 : Int32)]) (st := []) ((S_X11_needWithin (by omega)) e10) tT_X11_needWithin wd_1163 wd_1164 (by omega) (by decide) rfl (by simp [mm_crf, mm_cti, mm_ctl]) rfl dX11_comesTo_10 rfl rfl
  refine mm_callS C (pc := 10) (d1 := 6) (As := [.int a2, .int (0 : Int32), .int (999 : Int32)]) (st := []) (vk := none) ((S_X11_needWithin (by omega)) e10) tT_X11_needWithin wd_1163 wd_1164 (by omega) (by decide) rfl (by simp [mm_crf, mm_cti, mm_ctl]) rfl dX11_comesTo_10 ?_
  show V _ _ [] _
  refine mm_aload_n C (pc := 13) 0 dX11_comesTo_13 rfl ?_
  replace hK := mm_bd hK; obtain ⟨v14, e14, hK⟩ := hK
  refine mm_getr C (pc := 14) (k := 5) inGX11 rfl (by decide) wd_850 dX11_comesTo_14 e14 ?_
  refine mm_iload_n C (pc := 17) 1 dX11_comesTo_17 rfl ?_
  refine mm_aload_n C (pc := 18) 0 dX11_comesTo_18 rfl ?_
  replace hK := mm_bd hK; obtain ⟨v19, e19, hK⟩ := hK
  refine mm_getr C (pc := 19) (k := 5) inGX11 rfl (by decide) wd_850 dX11_comesTo_19 e19 ?_
  replace hK := mm_b2s hK; obtain ⟨v22, h22, e22, hK⟩ := hK
  obtain ⟨o22, e22⟩ := cV_some e22
  refine mm_callV C (pc := 22) (d1 := 1) (As := []) (st := [.int a1, va_rf v14]) (vk := (some (.int v22))) ((S_X0_minute (by omega)) e22) tT_X0_minute o22 (Or.inr ⟨_, rfl, rfl⟩) wd_1150 wd_937 wd_938 (by omega) (by decide) rfl (by simp [mm_crf, mm_cti, mm_ctl]) rfl dX11_comesTo_22 ?_
  show V _ _ (.int v22 :: _) _
  refine mm_iload_n C (pc := 25) 2 dX11_comesTo_25 rfl ?_
  refine mm_iadd C (pc := 26) dX11_comesTo_26 ?_
  replace hK := mm_b2s hK; obtain ⟨v27, h27, e27, hK⟩ := hK
  obtain ⟨o27, e27⟩ := cV_some e27
  refine mm_callV C (pc := 27) (d1 := 3) (As := [.int a1, .int (v22 + a2)]) (st := []) (vk := (some (.int v27))) ((S_X0_whereTo (by omega)) e27) tT_X0_whereTo o27 (Or.inr ⟨_, rfl, rfl⟩) wd_1497 wd_1030 wd_1031 (by omega) (by decide) rfl (by simp [mm_crf, mm_cti, mm_ctl]) rfl dX11_comesTo_27 ?_
  show V _ _ (.int v27 :: _) _
  cases hK
  exact mm_iret C (pc := 30) rfl dX11_comesTo_30 rfl rfl
