def F_X12_sharesLine_57 (s0 : Int32) (h : MH) : Option (Int32 × MH) := rZ s0 h
set_option maxRecDepth 20000 in
set_option maxHeartbeats 4000000 in
theorem w_X12_sharesLine_57 {d : Nat} {V : Nat → List (Nat × Value) → List Value → MH → Prop} {r : Int32} {hz : MH} (hd : 1 ≤ d) (C : mm_C d yX12_sharesLine cX12_sharesLine 4 (some .boolean) (.inr (some (.int r))) hz V) (s0 : Int32) (h : MH) (hK : F_X12_sharesLine_57 s0 h = some (r, hz)) : V 57 [] [.int s0] h := by
  unfold F_X12_sharesLine_57 at hK
  replace hK := rZ_some hK; obtain ⟨hv57, hK⟩ := hK
  cases hK
  exact mm_zret C (pc := 57) rfl (mm_nrZ hv57) dX12_sharesLine_57 rfl rfl
def F_X12_sharesLine_52 (h : MH) : Option (Int32 × MH) := F_X12_sharesLine_57 (1 : Int32) h
set_option maxRecDepth 20000 in
set_option maxHeartbeats 4000000 in
theorem w_X12_sharesLine_52 {d : Nat} {V : Nat → List (Nat × Value) → List Value → MH → Prop} {r : Int32} {hz : MH} (hd : 1 ≤ d) (C : mm_C d yX12_sharesLine cX12_sharesLine 4 (some .boolean) (.inr (some (.int r))) hz V) (h : MH) (hK : F_X12_sharesLine_52  h = some (r, hz)) : V 52 [] [] h := by
  unfold F_X12_sharesLine_52 at hK
  refine mm_iconst C (pc := 52) (v := (1 : Int32)) dX12_sharesLine_52 (by decide) ?_
  refine mm_goto C (pc := 53) (tgt := 57) dX12_sharesLine_53 (by decide) ?_
  exact w_X12_sharesLine_57 hd C _ _ hK
def F_X12_sharesLine (a0 : Option Nat) (a1 : Int32) (a2 : Int32) (a3 : Int32) (h : MH) : Option (Int32 × MH) := (gR h a0 12 0).bind fun v1 => (aI h v1 0 ((51 : Int32) + a1)).bind fun v8 => if v8 = a2 then (F_X12_sharesLine_52 h) else ((gR h a0 12 0).bind fun v14 => (aI h v14 0 ((51 : Int32) + a1)).bind fun v21 => if v21 = a3 then (F_X12_sharesLine_52 h) else ((gR h a0 12 0).bind fun v27 => (aI h v27 0 ((61 : Int32) + a1)).bind fun v34 => if v34 = a2 then (F_X12_sharesLine_52 h) else ((gR h a0 12 0).bind fun v40 => (aI h v40 0 ((61 : Int32) + a1)).bind fun v47 => if v47 = a3 then (F_X12_sharesLine_52 h) else (F_X12_sharesLine_57 (0 : Int32) h))))
set_option maxRecDepth 20000 in
set_option maxHeartbeats 4000000 in
theorem S_X12_sharesLine {d : Nat} (hd : 1 ≤ d) {a0 : Option Nat} {a1 : Int32} {a2 : Int32} {a3 : Int32} {h : MH} {r : Int32} {hz : MH} (hK : F_X12_sharesLine a0 a1 a2 a3 h = some (r, hz)) : mm_M yX12_sharesLine cX12_sharesLine 4 (some .boolean) d [va_rf a0, .int a1, .int a2, .int a3] h (.inr (some (.int r))) hz := by
  refine mm_ofV (by decide +kernel) (by simp [lg_sl, mm_crf, mm_cti, mm_ctl]) (fun V C => ?_)
  rw [show lv_args 0 [va_rf a0, .int a1, .int a2, .int a3] = [(0, va_rf a0), (1, .int a1), (2, .int a2), (3, .int a3)] by simp [lv_args, mm_crf, mm_cti, mm_ctl]]
  unfold F_X12_sharesLine at hK
  refine mm_aload_n C (pc := 0) 0 dX12_sharesLine_0 rfl ?_
  replace hK := mm_bd hK; obtain ⟨v1, e1, hK⟩ := hK
  refine mm_getr C (pc := 1) (k := 0) inGX12 rfl (by decide) wd_1999 dX12_sharesLine_1 e1 ?_
  refine mm_bipush C (pc := 4) (v := (51 : Int32)) dX12_sharesLine_4 (by decide) ?_
  refine mm_iload_n C (pc := 6) 1 dX12_sharesLine_6 rfl ?_
  refine mm_iadd C (pc := 7) dX12_sharesLine_7 ?_
  replace hK := mm_bd hK; obtain ⟨v8, e8, hK⟩ := hK
  refine mm_iald C (pc := 8) dX12_sharesLine_8 e8 ?_
  refine mm_iload_n C (pc := 9) 2 dX12_sharesLine_9 rfl ?_
  refine mm_icmp_eq C (pc := 10) (tgt := 52) dX12_sharesLine_10 (by decide) (fun hc => ?_) (fun hc => ?_)
  · replace hK := mm_ip hc hK
    refine mm_sub C [] rfl ?_
    exact w_X12_sharesLine_52 hd C _ hK
  · replace hK := mm_in hc hK
    refine mm_aload_n C (pc := 13) 0 dX12_sharesLine_13 rfl ?_
    replace hK := mm_bd hK; obtain ⟨v14, e14, hK⟩ := hK
    refine mm_getr C (pc := 14) (k := 0) inGX12 rfl (by decide) wd_1999 dX12_sharesLine_14 e14 ?_
    refine mm_bipush C (pc := 17) (v := (51 : Int32)) dX12_sharesLine_17 (by decide) ?_
    refine mm_iload_n C (pc := 19) 1 dX12_sharesLine_19 rfl ?_
    refine mm_iadd C (pc := 20) dX12_sharesLine_20 ?_
    replace hK := mm_bd hK; obtain ⟨v21, e21, hK⟩ := hK
    refine mm_iald C (pc := 21) dX12_sharesLine_21 e21 ?_
    refine mm_iload_n C (pc := 22) 3 dX12_sharesLine_22 rfl ?_
    refine mm_icmp_eq C (pc := 23) (tgt := 52) dX12_sharesLine_23 (by decide) (fun hc => ?_) (fun hc => ?_)
    · replace hK := mm_ip hc hK
      refine mm_sub C [] rfl ?_
      exact w_X12_sharesLine_52 hd C _ hK
    · replace hK := mm_in hc hK
      refine mm_aload_n C (pc := 26) 0 dX12_sharesLine_26 rfl ?_
      replace hK := mm_bd hK; obtain ⟨v27, e27, hK⟩ := hK
      refine mm_getr C (pc := 27) (k := 0) inGX12 rfl (by decide) wd_1999 dX12_sharesLine_27 e27 ?_
      refine mm_bipush C (pc := 30) (v := (61 : Int32)) dX12_sharesLine_30 (by decide) ?_
      refine mm_iload_n C (pc := 32) 1 dX12_sharesLine_32 rfl ?_
      refine mm_iadd C (pc := 33) dX12_sharesLine_33 ?_
      replace hK := mm_bd hK; obtain ⟨v34, e34, hK⟩ := hK
      refine mm_iald C (pc := 34) dX12_sharesLine_34 e34 ?_
      refine mm_iload_n C (pc := 35) 2 dX12_sharesLine_35 rfl ?_
      refine mm_icmp_eq C (pc := 36) (tgt := 52) dX12_sharesLine_36 (by decide) (fun hc => ?_) (fun hc => ?_)
      · replace hK := mm_ip hc hK
        refine mm_sub C [] rfl ?_
        exact w_X12_sharesLine_52 hd C _ hK
      · replace hK := mm_in hc hK
        refine mm_aload_n C (pc := 39) 0 dX12_sharesLine_39 rfl ?_
        replace hK := mm_bd hK; obtain ⟨v40, e40, hK⟩ := hK
        refine mm_getr C (pc := 40) (k := 0) inGX12 rfl (by decide) wd_1999 dX12_sharesLine_40 e40 ?_
        refine mm_bipush C (pc := 43) (v := (61 : Int32)) dX12_sharesLine_43 (by decide) ?_
        refine mm_iload_n C (pc := 45) 1 dX12_sharesLine_45 rfl ?_
        refine mm_iadd C (pc := 46) dX12_sharesLine_46 ?_
        replace hK := mm_bd hK; obtain ⟨v47, e47, hK⟩ := hK
        refine mm_iald C (pc := 47) dX12_sharesLine_47 e47 ?_
        refine mm_iload_n C (pc := 48) 3 dX12_sharesLine_48 rfl ?_
        refine mm_icmp_ne C (pc := 49) (tgt := 56) dX12_sharesLine_49 (by decide) (fun hc => ?_) (fun hc => ?_)
        · replace hK := mm_in hc hK
          refine mm_iconst C (pc := 56) (v := (0 : Int32)) dX12_sharesLine_56 (by decide) ?_
          refine mm_sub C [] rfl ?_
          exact w_X12_sharesLine_57 hd C _ _ hK
        · replace hK := mm_ip hc hK
          refine mm_sub C [] rfl ?_
          exact w_X12_sharesLine_52 hd C _ hK
theorem wd_2029 : Cond.fieldLink RX12 424 "CrossedLinesModel" "areTold" "Z" ∈ lw_good := mm_wd 2029 (by decide +kernel) (by decide +kernel)
theorem wd_2557 : Cond.code yX12_overlap cX12_overlap 3 (some .boolean) ∈ lw_good := mm_wd 2557 (by decide +kernel) (by decide +kernel)
theorem tT_X12_overlap : mm_T yX12_overlap cX12_overlap 3 (some .boolean) 2 := ⟨wd_2557, wd_170, by decide +kernel, by decide +kernel, by decide +kernel, by decide +kernel⟩
theorem wd_2554 : Cond.methodLink RX12 432 yX12_overlap ∈ lw_good := mm_wd 2554 (by decide +kernel) (by decide +kernel)
theorem wd_2556 : Cond.instanceMethod yX12_overlap ∈ lw_good := mm_wd 2556 (by decide +kernel) (by decide +kernel)
theorem wd_120 : Cond.selects RX12 yX12_overlap yX12_overlap ∈ lw_good := mm_wd 120 (by decide +kernel) (by decide +kernel)
theorem wd_2553 : Cond.code yX12_sharesLine cX12_sharesLine 4 (some .boolean) ∈ lw_good := mm_wd 2553 (by decide +kernel) (by decide +kernel)
theorem tT_X12_sharesLine : mm_T yX12_sharesLine cX12_sharesLine 4 (some .boolean) 3 := ⟨wd_2553, wd_170, by decide +kernel, by decide +kernel, by decide +kernel, by decide +kernel⟩
theorem wd_2550 : Cond.methodLink RX12 428 yX12_sharesLine ∈ lw_good := mm_wd 2550 (by decide +kernel) (by decide +kernel)
theorem wd_2552 : Cond.instanceMethod yX12_sharesLine ∈ lw_good := mm_wd 2552 (by decide +kernel) (by decide +kernel)
theorem wd_119 : Cond.selects RX12 yX12_sharesLine yX12_sharesLine ∈ lw_good := mm_wd 119 (by decide +kernel) (by decide +kernel)
def F_X12_couldBe_78 (h : MH) : Option (Int32 × MH) := rZ (0 : Int32) h
set_option maxRecDepth 20000 in
set_option maxHeartbeats 4000000 in
theorem w_X12_couldBe_78 {d : Nat} {V : Nat → List (Nat × Value) → List Value → MH → Prop} {r : Int32} {hz : MH} (hd : 3 ≤ d) (C : mm_C d yX12_couldBe cX12_couldBe 7 (some .boolean) (.inr (some (.int r))) hz V) (h : MH) (hK : F_X12_couldBe_78  h = some (r, hz)) : V 78 [] [] h := by
  unfold F_X12_couldBe_78 at hK
  refine mm_iconst C (pc := 78) (v := (0 : Int32)) dX12_couldBe_78 (by decide) ?_
  replace hK := rZ_some hK; obtain ⟨hv79, hK⟩ := hK
  cases hK
  exact mm_zret C (pc := 79) rfl (mm_nrZ hv79) dX12_couldBe_79 rfl rfl
def F_X12_couldBe_275 (k83 : Option Nat → Int32 → Int32 → Int32 → MH → Option (Int32 × MH)) (l0 : Option Nat) (l1 : Int32) (l2 : Int32) (l5 : Int32) (h : MH) : Option (Int32 × MH) := k83 l0 l1 l2 (l5 + (1 : Int32)) h
set_option maxRecDepth 20000 in
set_option maxHeartbeats 4000000 in
theorem w_X12_couldBe_275 {d : Nat} {V : Nat → List (Nat × Value) → List Value → MH → Prop} {r : Int32} {hz : MH} {k83 : Option Nat → Int32 → Int32 → Int32 → MH → Option (Int32 × MH)} (hd : 3 ≤ d) (C : mm_C d yX12_couldBe cX12_couldBe 7 (some .boolean) (.inr (some (.int r))) hz V) (q83 : ∀ (x0 : Option Nat) (x1 : Int32) (x2 : Int32) (x3 : Int32) (h : MH), k83 x0 x1 x2 x3 h = some (r, hz) → V 83 [(0, va_rf x0), (1, .int x1), (2, .int x2), (5, .int x3)] [] h) (l0 : Option Nat) (l1 : Int32) (l2 : Int32) (l5 : Int32) (h : MH) (hK : F_X12_couldBe_275 k83 l0 l1 l2 l5 h = some (r, hz)) : V 275 [(0, va_rf l0), (1, .int l1), (2, .int l2), (5, .int l5)] [] h := by
  unfold F_X12_couldBe_275 at hK
  refine mm_iinc C (pc := 275) (v := (l5 + (1 : Int32))) (lv' := [(5, .int (l5 + (1 : Int32))), (0, va_rf l0), (1, .int l1), (2, .int l2)]) 3 dX12_couldBe_275 rfl rfl (by decide) rfl ?_
  refine mm_goto C (pc := 278) (tgt := 83) dX12_couldBe_278 (by decide) ?_
  refine mm_sub C [1, 2, 3, 0] rfl ?_
  exact q83 _ _ _ _ _ hK
def F_X12_couldBe_273 (h : MH) : Option (Int32 × MH) := rZ (0 : Int32) h
set_option maxRecDepth 20000 in
set_option maxHeartbeats 4000000 in
theorem w_X12_couldBe_273 {d : Nat} {V : Nat → List (Nat × Value) → List Value → MH → Prop} {r : Int32} {hz : MH} (hd : 3 ≤ d) (C : mm_C d yX12_couldBe cX12_couldBe 7 (some .boolean) (.inr (some (.int r))) hz V) (h : MH) (hK : F_X12_couldBe_273  h = some (r, hz)) : V 273 [] [] h := by
  unfold F_X12_couldBe_273 at hK
  refine mm_iconst C (pc := 273) (v := (0 : Int32)) dX12_couldBe_273 (by decide) ?_
  replace hK := rZ_some hK; obtain ⟨hv274, hK⟩ := hK
  cases hK
  exact mm_zret C (pc := 274) rfl (mm_nrZ hv274) dX12_couldBe_274 rfl rfl
def F_X12_couldBe_202 (k83 : Option Nat → Int32 → Int32 → Int32 → MH → Option (Int32 × MH)) (l0 : Option Nat) (l1 : Int32) (l2 : Int32) (l5 : Int32) (l6 : Int32) (h : MH) : Option (Int32 × MH) := if l6 = 0 then (if l1 ≤ l5 then (F_X12_couldBe_275 k83 l0 l1 l2 l5 h) else ((gR h l0 12 26).bind fun v214 => (aI h v214 0 l5).bind fun v219 => if v219 = ((-1) : Int32) then (F_X12_couldBe_275 k83 l0 l1 l2 l5 h) else (mm_b2 (cV h l0 12 (F_X12_overlap l0 l1 l5 h)) fun v228 h228 => if v228 = 0 then (F_X12_couldBe_275 k83 l0 l1 l2 l5 h228) else ((gR h228 l0 12 0).bind fun v237 => (aI h228 v237 0 ((51 : Int32) + l5)).bind fun v245 => (gR h228 l0 12 0).bind fun v247 => (aI h228 v247 0 ((61 : Int32) + l5)).bind fun v255 => mm_b2 (cV h228 l0 12 (F_X12_sharesLine l0 l1 v245 v255 h228)) fun v256 h256 => if v256 = 0 then ((gR h256 l0 12 26).bind fun v263 => (aI h256 v263 0 l5).bind fun v268 => if v268 = l2 then (F_X12_couldBe_273 h256) else (F_X12_couldBe_275 k83 l0 l1 l2 l5 h256)) else (F_X12_couldBe_273 h256))))) else (F_X12_couldBe_275 k83 l0 l1 l2 l5 h)
set_option maxRecDepth 20000 in
set_option maxHeartbeats 4000000 in
theorem w_X12_couldBe_202 {d : Nat} {V : Nat → List (Nat × Value) → List Value → MH → Prop} {r : Int32} {hz : MH} {k83 : Option Nat → Int32 → Int32 → Int32 → MH → Option (Int32 × MH)} (hd : 3 ≤ d) (C : mm_C d yX12_couldBe cX12_couldBe 7 (some .boolean) (.inr (some (.int r))) hz V) (q83 : ∀ (x0 : Option Nat) (x1 : Int32) (x2 : Int32) (x3 : Int32) (h : MH), k83 x0 x1 x2 x3 h = some (r, hz) → V 83 [(0, va_rf x0), (1, .int x1), (2, .int x2), (5, .int x3)] [] h) (l0 : Option Nat) (l1 : Int32) (l2 : Int32) (l5 : Int32) (l6 : Int32) (h : MH) (hK : F_X12_couldBe_202 k83 l0 l1 l2 l5 l6 h = some (r, hz)) : V 202 [(0, va_rf l0), (1, .int l1), (2, .int l2), (5, .int l5), (6, .int l6)] [] h := by
  unfold F_X12_couldBe_202 at hK
  refine mm_iload C (pc := 202) 4 dX12_couldBe_202 rfl ?_
  refine mm_if_ne C (pc := 204) (tgt := 275) dX12_couldBe_204 (by decide) (fun hc => ?_) (fun hc => ?_)
  · replace hK := mm_in hc hK
    refine mm_sub C [0, 1, 2, 3] rfl ?_
    exact w_X12_couldBe_275 hd C (fun z0 z1 z2 z3 z4 hK => q83 z0 z1 z2 z3 z4 hK) _ _ _ _ _ hK
  · replace hK := mm_ip hc hK
    refine mm_iload C (pc := 207) 3 dX12_couldBe_207 rfl ?_
    refine mm_iload_n C (pc := 209) 1 dX12_couldBe_209 rfl ?_
    refine mm_icmp_ge C (pc := 210) (tgt := 275) dX12_couldBe_210 (by decide) (fun hc => ?_) (fun hc => ?_)
    · replace hK := mm_ip hc hK
      refine mm_sub C [0, 1, 2, 3] rfl ?_
      exact w_X12_couldBe_275 hd C (fun z0 z1 z2 z3 z4 hK => q83 z0 z1 z2 z3 z4 hK) _ _ _ _ _ hK
    · replace hK := mm_in hc hK
      refine mm_aload_n C (pc := 213) 0 dX12_couldBe_213 rfl ?_
      replace hK := mm_bd hK; obtain ⟨v214, e214, hK⟩ := hK
      refine mm_getr C (pc := 214) (k := 26) inGX12 rfl (by decide) wd_2025 dX12_couldBe_214 e214 ?_
      refine mm_iload C (pc := 217) 3 dX12_couldBe_217 rfl ?_
      replace hK := mm_bd hK; obtain ⟨v219, e219, hK⟩ := hK
      refine mm_iald C (pc := 219) dX12_couldBe_219 e219 ?_
      refine mm_iconst C (pc := 220) (v := ((-1) : Int32)) dX12_couldBe_220 (by decide) ?_
      refine mm_icmp_eq C (pc := 221) (tgt := 275) dX12_couldBe_221 (by decide) (fun hc => ?_) (fun hc => ?_)
      · replace hK := mm_ip hc hK
        refine mm_sub C [0, 1, 2, 3] rfl ?_
        exact w_X12_couldBe_275 hd C (fun z0 z1 z2 z3 z4 hK => q83 z0 z1 z2 z3 z4 hK) _ _ _ _ _ hK
      · replace hK := mm_in hc hK
        refine mm_aload_n C (pc := 224) 0 dX12_couldBe_224 rfl ?_
        refine mm_iload_n C (pc := 225) 1 dX12_couldBe_225 rfl ?_
        refine mm_iload C (pc := 226) 3 dX12_couldBe_226 rfl ?_
        replace hK := mm_b2s hK; obtain ⟨v228, h228, e228, hK⟩ := hK
        obtain ⟨o228, e228⟩ := cV_some e228
        refine mm_callV C (pc := 228) (d1 := 1) (As := [.int l1, .int l5]) (st := []) (vk := (some (.int v228))) ((S_X12_overlap (by omega)) e228) tT_X12_overlap o228 (Or.inr ⟨_, rfl, rfl⟩) wd_2554 wd_2556 wd_120 (by omega) (by decide) rfl (by simp [mm_crf, mm_cti, mm_ctl]) rfl dX12_couldBe_228 ?_
        show V _ _ (.int v228 :: _) _
        refine mm_if_eq C (pc := 231) (tgt := 275) dX12_couldBe_231 (by decide) (fun hc => ?_) (fun hc => ?_)
        · replace hK := mm_ip hc hK
          refine mm_sub C [0, 1, 2, 3] rfl ?_
          exact w_X12_couldBe_275 hd C (fun z0 z1 z2 z3 z4 hK => q83 z0 z1 z2 z3 z4 hK) _ _ _ _ _ hK
        · replace hK := mm_in hc hK
          refine mm_aload_n C (pc := 234) 0 dX12_couldBe_234 rfl ?_
          refine mm_iload_n C (pc := 235) 1 dX12_couldBe_235 rfl ?_
          refine mm_aload_n C (pc := 236) 0 dX12_couldBe_236 rfl ?_
          replace hK := mm_bd hK; obtain ⟨v237, e237, hK⟩ := hK
          refine mm_getr C (pc := 237) (k := 0) inGX12 rfl (by decide) wd_1999 dX12_couldBe_237 e237 ?_
          refine mm_bipush C (pc := 240) (v := (51 : Int32)) dX12_couldBe_240 (by decide) ?_
          refine mm_iload C (pc := 242) 3 dX12_couldBe_242 rfl ?_
          refine mm_iadd C (pc := 244) dX12_couldBe_244 ?_
          replace hK := mm_bd hK; obtain ⟨v245, e245, hK⟩ := hK
          refine mm_iald C (pc := 245) dX12_couldBe_245 e245 ?_
          refine mm_aload_n C (pc := 246) 0 dX12_couldBe_246 rfl ?_
          replace hK := mm_bd hK; obtain ⟨v247, e247, hK⟩ := hK
          refine mm_getr C (pc := 247) (k := 0) inGX12 rfl (by decide) wd_1999 dX12_couldBe_247 e247 ?_
          refine mm_bipush C (pc := 250) (v := (61 : Int32)) dX12_couldBe_250 (by decide) ?_
          refine mm_iload C (pc := 252) 3 dX12_couldBe_252 rfl ?_
          refine mm_iadd C (pc := 254) dX12_couldBe_254 ?_
          replace hK := mm_bd hK; obtain ⟨v255, e255, hK⟩ := hK
          refine mm_iald C (pc := 255) dX12_couldBe_255 e255 ?_
          replace hK := mm_b2s hK; obtain ⟨v256, h256, e256, hK⟩ := hK
          obtain ⟨o256, e256⟩ := cV_some e256
          refine mm_callV C (pc := 256) (d1 := 1) (As := [.int l1, .int v245, .int v255]) (st := []) (vk := (some (.int v256))) ((S_X12_sharesLine (by omega)) e256) tT_X12_sharesLine o256 (Or.inr ⟨_, rfl, rfl⟩) wd_2550 wd_2552 wd_119 (by omega) (by decide) rfl (by simp [mm_crf, mm_cti, mm_ctl]) rfl dX12_couldBe_256 ?_
          show V _ _ (.int v256 :: _) _
          refine mm_if_ne C (pc := 259) (tgt := 273) dX12_couldBe_259 (by decide) (fun hc => ?_) (fun hc => ?_)
          · replace hK := mm_in hc hK
            refine mm_sub C [] rfl ?_
            exact w_X12_couldBe_273 hd C _ hK
          · replace hK := mm_ip hc hK
            refine mm_aload_n C (pc := 262) 0 dX12_couldBe_262 rfl ?_
            replace hK := mm_bd hK; obtain ⟨v263, e263, hK⟩ := hK
            refine mm_getr C (pc := 263) (k := 26) inGX12 rfl (by decide) wd_2025 dX12_couldBe_263 e263 ?_
            refine mm_iload C (pc := 266) 3 dX12_couldBe_266 rfl ?_
            replace hK := mm_bd hK; obtain ⟨v268, e268, hK⟩ := hK
            refine mm_iald C (pc := 268) dX12_couldBe_268 e268 ?_
            refine mm_iload_n C (pc := 269) 2 dX12_couldBe_269 rfl ?_
            refine mm_icmp_ne C (pc := 270) (tgt := 275) dX12_couldBe_270 (by decide) (fun hc => ?_) (fun hc => ?_)
            · replace hK := mm_in hc hK
              refine mm_sub C [0, 1, 2, 3] rfl ?_
              exact w_X12_couldBe_275 hd C (fun z0 z1 z2 z3 z4 hK => q83 z0 z1 z2 z3 z4 hK) _ _ _ _ _ hK
            · replace hK := mm_ip hc hK
              refine mm_sub C [] rfl ?_
              exact w_X12_couldBe_273 hd C _ hK
def F_X12_couldBe_200 (h : MH) : Option (Int32 × MH) := rZ (0 : Int32) h
set_option maxRecDepth 20000 in
set_option maxHeartbeats 4000000 in
theorem w_X12_couldBe_200 {d : Nat} {V : Nat → List (Nat × Value) → List Value → MH → Prop} {r : Int32} {hz : MH} (hd : 3 ≤ d) (C : mm_C d yX12_couldBe cX12_couldBe 7 (some .boolean) (.inr (some (.int r))) hz V) (h : MH) (hK : F_X12_couldBe_200  h = some (r, hz)) : V 200 [] [] h := by
  unfold F_X12_couldBe_200 at hK
  refine mm_iconst C (pc := 200) (v := (0 : Int32)) dX12_couldBe_200 (by decide) ?_
  replace hK := rZ_some hK; obtain ⟨hv201, hK⟩ := hK
  cases hK
  exact mm_zret C (pc := 201) rfl (mm_nrZ hv201) dX12_couldBe_201 rfl rfl
def F_X12_couldBe_111 (k83 : Option Nat → Int32 → Int32 → Int32 → MH → Option (Int32 × MH)) (l0 : Option Nat) (l1 : Int32) (l2 : Int32) (l5 : Int32) (s0 : Int32) (h : MH) : Option (Int32 × MH) := if s0 = 0 then (F_X12_couldBe_202 k83 l0 l1 l2 l5 s0 h) else ((gR h l0 12 0).bind fun v119 => (aI h v119 0 ((71 : Int32) + l1)).bind fun v126 => (gR h l0 12 0).bind fun v128 => (aI h v128 0 ((71 : Int32) + l5)).bind fun v136 => (gR h l0 12 0).bind fun v138 => (aI h v138 0 ((81 : Int32) + l5)).bind fun v146 => if (v136 + v146) ≤ v126 then (F_X12_couldBe_202 k83 l0 l1 l2 l5 s0 h) else ((gR h l0 12 0).bind fun v154 => (aI h v154 0 ((51 : Int32) + l5)).bind fun v162 => (gR h l0 12 0).bind fun v164 => (aI h v164 0 ((18 : Int32) + l5)).bind fun v172 => mm_b2 (cV h l0 12 (F_X12_sharesLine l0 l1 v162 v172 h)) fun v173 h173 => if v173 = 0 then ((gI h173 l0 12 30).bind fun v180 => if v180 = 0 then (F_X12_couldBe_202 k83 l0 l1 l2 l5 s0 h173) else ((gR h173 l0 12 0).bind fun v187 => (aI h173 v187 0 ((28 : Int32) + l5)).bind fun v195 => if v195 = l2 then (F_X12_couldBe_200 h173) else (F_X12_couldBe_202 k83 l0 l1 l2 l5 s0 h173))) else (F_X12_couldBe_200 h173)))
set_option maxRecDepth 20000 in
set_option maxHeartbeats 4000000 in
theorem w_X12_couldBe_111 {d : Nat} {V : Nat → List (Nat × Value) → List Value → MH → Prop} {r : Int32} {hz : MH} {k83 : Option Nat → Int32 → Int32 → Int32 → MH → Option (Int32 × MH)} (hd : 3 ≤ d) (C : mm_C d yX12_couldBe cX12_couldBe 7 (some .boolean) (.inr (some (.int r))) hz V) (q83 : ∀ (x0 : Option Nat) (x1 : Int32) (x2 : Int32) (x3 : Int32) (h : MH), k83 x0 x1 x2 x3 h = some (r, hz) → V 83 [(0, va_rf x0), (1, .int x1), (2, .int x2), (5, .int x3)] [] h) (l0 : Option Nat) (l1 : Int32) (l2 : Int32) (l5 : Int32) (s0 : Int32) (h : MH) (hK : F_X12_couldBe_111 k83 l0 l1 l2 l5 s0 h = some (r, hz)) : V 111 [(0, va_rf l0), (1, .int l1), (2, .int l2), (5, .int l5)] [.int s0] h := by
  unfold F_X12_couldBe_111 at hK
  refine mm_istore C (pc := 111) (i := 6) (lv' := [(6, .int s0), (0, va_rf l0), (1, .int l1), (2, .int l2), (5, .int l5)]) dX12_couldBe_111 (by decide) rfl ?_
  refine mm_iload C (pc := 113) 0 dX12_couldBe_113 rfl ?_
  refine mm_if_eq C (pc := 115) (tgt := 202) dX12_couldBe_115 (by decide) (fun hc => ?_) (fun hc => ?_)
  · replace hK := mm_ip hc hK
    refine mm_sub C [1, 2, 3, 4, 0] rfl ?_
    exact w_X12_couldBe_202 hd C (fun z0 z1 z2 z3 z4 hK => q83 z0 z1 z2 z3 z4 hK) _ _ _ _ _ _ hK
  · replace hK := mm_in hc hK
    refine mm_aload_n C (pc := 118) 1 dX12_couldBe_118 rfl ?_
    replace hK := mm_bd hK; obtain ⟨v119, e119, hK⟩ := hK
    refine mm_getr C (pc := 119) (k := 0) inGX12 rfl (by decide) wd_1999 dX12_couldBe_119 e119 ?_
    refine mm_bipush C (pc := 122) (v := (71 : Int32)) dX12_couldBe_122 (by decide) ?_
    refine mm_iload_n C (pc := 124) 2 dX12_couldBe_124 rfl ?_
    refine mm_iadd C (pc := 125) dX12_couldBe_125 ?_
    replace hK := mm_bd hK; obtain ⟨v126, e126, hK⟩ := hK
    refine mm_iald C (pc := 126) dX12_couldBe_126 e126 ?_
    refine mm_aload_n C (pc := 127) 1 dX12_couldBe_127 rfl ?_
    replace hK := mm_bd hK; obtain ⟨v128, e128, hK⟩ := hK
    refine mm_getr C (pc := 128) (k := 0) inGX12 rfl (by decide) wd_1999 dX12_couldBe_128 e128 ?_
    refine mm_bipush C (pc := 131) (v := (71 : Int32)) dX12_couldBe_131 (by decide) ?_
    refine mm_iload C (pc := 133) 4 dX12_couldBe_133 rfl ?_
    refine mm_iadd C (pc := 135) dX12_couldBe_135 ?_
    replace hK := mm_bd hK; obtain ⟨v136, e136, hK⟩ := hK
    refine mm_iald C (pc := 136) dX12_couldBe_136 e136 ?_
    refine mm_aload_n C (pc := 137) 1 dX12_couldBe_137 rfl ?_
    replace hK := mm_bd hK; obtain ⟨v138, e138, hK⟩ := hK
    refine mm_getr C (pc := 138) (k := 0) inGX12 rfl (by decide) wd_1999 dX12_couldBe_138 e138 ?_
    refine mm_bipush C (pc := 141) (v := (81 : Int32)) dX12_couldBe_141 (by decide) ?_
    refine mm_iload C (pc := 143) 4 dX12_couldBe_143 rfl ?_
    refine mm_iadd C (pc := 145) dX12_couldBe_145 ?_
    replace hK := mm_bd hK; obtain ⟨v146, e146, hK⟩ := hK
    refine mm_iald C (pc := 146) dX12_couldBe_146 e146 ?_
    refine mm_iadd C (pc := 147) dX12_couldBe_147 ?_
    refine mm_icmp_ge C (pc := 148) (tgt := 202) dX12_couldBe_148 (by decide) (fun hc => ?_) (fun hc => ?_)
    · replace hK := mm_ip hc hK
      refine mm_sub C [1, 2, 3, 4, 0] rfl ?_
      exact w_X12_couldBe_202 hd C (fun z0 z1 z2 z3 z4 hK => q83 z0 z1 z2 z3 z4 hK) _ _ _ _ _ _ hK
    · replace hK := mm_in hc hK
      refine mm_aload_n C (pc := 151) 1 dX12_couldBe_151 rfl ?_
      refine mm_iload_n C (pc := 152) 2 dX12_couldBe_152 rfl ?_
      refine mm_aload_n C (pc := 153) 1 dX12_couldBe_153 rfl ?_
      replace hK := mm_bd hK; obtain ⟨v154, e154, hK⟩ := hK
      refine mm_getr C (pc := 154) (k := 0) inGX12 rfl (by decide) wd_1999 dX12_couldBe_154 e154 ?_
      refine mm_bipush C (pc := 157) (v := (51 : Int32)) dX12_couldBe_157 (by decide) ?_
      refine mm_iload C (pc := 159) 4 dX12_couldBe_159 rfl ?_
      refine mm_iadd C (pc := 161) dX12_couldBe_161 ?_
      replace hK := mm_bd hK; obtain ⟨v162, e162, hK⟩ := hK
      refine mm_iald C (pc := 162) dX12_couldBe_162 e162 ?_
      refine mm_aload_n C (pc := 163) 1 dX12_couldBe_163 rfl ?_
      replace hK := mm_bd hK; obtain ⟨v164, e164, hK⟩ := hK
      refine mm_getr C (pc := 164) (k := 0) inGX12 rfl (by decide) wd_1999 dX12_couldBe_164 e164 ?_
      refine mm_bipush C (pc := 167) (v := (18 : Int32)) dX12_couldBe_167 (by decide) ?_
      refine mm_iload C (pc := 169) 4 dX12_couldBe_169 rfl ?_
      refine mm_iadd C (pc := 171) dX12_couldBe_171 ?_
      replace hK := mm_bd hK; obtain ⟨v172, e172, hK⟩ := hK
      refine mm_iald C (pc := 172) dX12_couldBe_172 e172 ?_
      replace hK := mm_b2s hK; obtain ⟨v173, h173, e173, hK⟩ := hK
      obtain ⟨o173, e173⟩ := cV_some e173
      refine mm_callV C (pc := 173) (d1 := 1) (As := [.int l1, .int v162, .int v172]) (st := []) (vk := (some (.int v173))) ((S_X12_sharesLine (by omega)) e173) tT_X12_sharesLine o173 (Or.inr ⟨_, rfl, rfl⟩) wd_2550 wd_2552 wd_119 (by omega) (by decide) rfl (by simp [mm_crf, mm_cti, mm_ctl]) rfl dX12_couldBe_173 ?_
      show V _ _ (.int v173 :: _) _
      refine mm_if_ne C (pc := 176) (tgt := 200) dX12_couldBe_176 (by decide) (fun hc => ?_) (fun hc => ?_)
      · replace hK := mm_in hc hK
        refine mm_sub C [] rfl ?_
        exact w_X12_couldBe_200 hd C _ hK
      · replace hK := mm_ip hc hK
        refine mm_aload_n C (pc := 179) 1 dX12_couldBe_179 rfl ?_
        replace hK := mm_bd hK; obtain ⟨v180, e180, hK⟩ := hK
        refine mm_geti C (pc := 180) (k := 30) inGX12 rfl (by decide) wd_2029 dX12_couldBe_180 e180 ?_
        refine mm_if_eq C (pc := 183) (tgt := 202) dX12_couldBe_183 (by decide) (fun hc => ?_) (fun hc => ?_)
        · replace hK := mm_ip hc hK
          refine mm_sub C [1, 2, 3, 4, 0] rfl ?_
          exact w_X12_couldBe_202 hd C (fun z0 z1 z2 z3 z4 hK => q83 z0 z1 z2 z3 z4 hK) _ _ _ _ _ _ hK
        · replace hK := mm_in hc hK
          refine mm_aload_n C (pc := 186) 1 dX12_couldBe_186 rfl ?_
          replace hK := mm_bd hK; obtain ⟨v187, e187, hK⟩ := hK
          refine mm_getr C (pc := 187) (k := 0) inGX12 rfl (by decide) wd_1999 dX12_couldBe_187 e187 ?_
          refine mm_bipush C (pc := 190) (v := (28 : Int32)) dX12_couldBe_190 (by decide) ?_
          refine mm_iload C (pc := 192) 4 dX12_couldBe_192 rfl ?_
          refine mm_iadd C (pc := 194) dX12_couldBe_194 ?_
          replace hK := mm_bd hK; obtain ⟨v195, e195, hK⟩ := hK
          refine mm_iald C (pc := 195) dX12_couldBe_195 e195 ?_
          refine mm_iload_n C (pc := 196) 3 dX12_couldBe_196 rfl ?_
          refine mm_icmp_ne C (pc := 197) (tgt := 202) dX12_couldBe_197 (by decide) (fun hc => ?_) (fun hc => ?_)
          · replace hK := mm_in hc hK
            refine mm_sub C [1, 2, 3, 4, 0] rfl ?_
            exact w_X12_couldBe_202 hd C (fun z0 z1 z2 z3 z4 hK => q83 z0 z1 z2 z3 z4 hK) _ _ _ _ _ _ hK
          · replace hK := mm_ip hc hK
            refine mm_sub C [] rfl ?_
            exact w_X12_couldBe_200 hd C _ hK
def F_X12_couldBe_83 : Nat → Option Nat → Int32 → Int32 → Int32 → MH → Option (Int32 × MH)
  | 0 => fun _ _ _ _ _ => none
  | n + 1 => fun l0 l1 l2 l5 h => mm_b2 (cV h l0 12 (F_X12_calls l0 h)) fun v86 h86 => if v86 ≤ l5 then (rZ (1 : Int32) h86) else ((gR h86 l0 12 0).bind fun v93 => (aI h86 v93 0 ((8 : Int32) + l5)).bind fun v101 => if v101 = (1 : Int32) then (F_X12_couldBe_111 (F_X12_couldBe_83 n) l0 l1 l2 l5 (1 : Int32) h86) else (F_X12_couldBe_111 (F_X12_couldBe_83 n) l0 l1 l2 l5 (0 : Int32) h86))
set_option maxRecDepth 20000 in
set_option maxHeartbeats 4000000 in
theorem w_X12_couldBe_83 {d : Nat} {V : Nat → List (Nat × Value) → List Value → MH → Prop} {r : Int32} {hz : MH} (hd : 3 ≤ d) (C : mm_C d yX12_couldBe cX12_couldBe 7 (some .boolean) (.inr (some (.int r))) hz V) : ∀ (n : Nat) (l0 : Option Nat) (l1 : Int32) (l2 : Int32) (l5 : Int32) (h : MH), F_X12_couldBe_83 n l0 l1 l2 l5 h = some (r, hz) → V 83 [(0, va_rf l0), (1, .int l1), (2, .int l2), (5, .int l5)] [] h := by
  intro n
  induction n with
  | zero => intro l0 l1 l2 l5 h hK; cases hK
  | succ n ih =>
    intro l0 l1 l2 l5 h hK
    replace hK : (mm_b2 (cV h l0 12 (F_X12_calls l0 h)) fun v86 h86 => if v86 ≤ l5 then (rZ (1 : Int32) h86) else ((gR h86 l0 12 0).bind fun v93 => (aI h86 v93 0 ((8 : Int32) + l5)).bind fun v101 => if v101 = (1 : Int32) then (F_X12_couldBe_111 (F_X12_couldBe_83 n) l0 l1 l2 l5 (1 : Int32) h86) else (F_X12_couldBe_111 (F_X12_couldBe_83 n) l0 l1 l2 l5 (0 : Int32) h86))) = some (r, hz) := hK
    refine mm_iload C (pc := 83) 3 dX12_couldBe_83 rfl ?_
    refine mm_aload_n C (pc := 85) 0 dX12_couldBe_85 rfl ?_
    replace hK := mm_b2s hK; obtain ⟨v86, h86, e86, hK⟩ := hK
    obtain ⟨o86, e86⟩ := cV_some e86
    refine mm_callV C (pc := 86) (d1 := 1) (As := []) (st := [.int l5]) (vk := (some (.int v86))) ((S_X12_calls (by omega)) e86) tT_X12_calls o86 (Or.inr ⟨_, rfl, rfl⟩) wd_2295 wd_2297 wd_87 (by omega) (by decide) rfl (by simp [mm_crf, mm_cti, mm_ctl]) rfl dX12_couldBe_86 ?_
    show V _ _ (.int v86 :: _) _
    refine mm_icmp_ge C (pc := 89) (tgt := 281) dX12_couldBe_89 (by decide) (fun hc => ?_) (fun hc => ?_)
    · replace hK := mm_ip hc hK
      refine mm_iconst C (pc := 281) (v := (1 : Int32)) dX12_couldBe_281 (by decide) ?_
      replace hK := rZ_some hK; obtain ⟨hv282, hK⟩ := hK
      cases hK
      exact mm_zret C (pc := 282) rfl (mm_nrZ hv282) dX12_couldBe_282 rfl rfl
    · replace hK := mm_in hc hK
      refine mm_aload_n C (pc := 92) 0 dX12_couldBe_92 rfl ?_
      replace hK := mm_bd hK; obtain ⟨v93, e93, hK⟩ := hK
      refine mm_getr C (pc := 93) (k := 0) inGX12 rfl (by decide) wd_1999 dX12_couldBe_93 e93 ?_
      refine mm_bipush C (pc := 96) (v := (8 : Int32)) dX12_couldBe_96 (by decide) ?_
      refine mm_iload C (pc := 98) 3 dX12_couldBe_98 rfl ?_
      refine mm_iadd C (pc := 100) dX12_couldBe_100 ?_
      replace hK := mm_bd hK; obtain ⟨v101, e101, hK⟩ := hK
      refine mm_iald C (pc := 101) dX12_couldBe_101 e101 ?_
      refine mm_iconst C (pc := 102) (v := (1 : Int32)) dX12_couldBe_102 (by decide) ?_
      refine mm_icmp_ne C (pc := 103) (tgt := 110) dX12_couldBe_103 (by decide) (fun hc => ?_) (fun hc => ?_)
      · replace hK := mm_in hc hK
        refine mm_iconst C (pc := 110) (v := (0 : Int32)) dX12_couldBe_110 (by decide) ?_
        exact w_X12_couldBe_111 hd C (fun z0 z1 z2 z3 z4 hK => ih z0 z1 z2 z3 z4 hK) _ _ _ _ _ _ hK
      · replace hK := mm_ip hc hK
        refine mm_iconst C (pc := 106) (v := (1 : Int32)) dX12_couldBe_106 (by decide) ?_
        refine mm_goto C (pc := 107) (tgt := 111) dX12_couldBe_107 (by decide) ?_
        exact w_X12_couldBe_111 hd C (fun z0 z1 z2 z3 z4 hK => ih z0 z1 z2 z3 z4 hK) _ _ _ _ _ _ hK
def F_X12_couldBe_80 (l0 : Option Nat) (l1 : Int32) (l2 : Int32) (h : MH) : Option (Int32 × MH) := F_X12_couldBe_83 mm_N l0 l1 l2 (0 : Int32) h
set_option maxRecDepth 20000 in
set_option maxHeartbeats 4000000 in
theorem w_X12_couldBe_80 {d : Nat} {V : Nat → List (Nat × Value) → List Value → MH → Prop} {r : Int32} {hz : MH} (hd : 3 ≤ d) (C : mm_C d yX12_couldBe cX12_couldBe 7 (some .boolean) (.inr (some (.int r))) hz V) (l0 : Option Nat) (l1 : Int32) (l2 : Int32) (h : MH) (hK : F_X12_couldBe_80 l0 l1 l2 h = some (r, hz)) : V 80 [(0, va_rf l0), (1, .int l1), (2, .int l2)] [] h := by
  unfold F_X12_couldBe_80 at hK
  refine mm_iconst C (pc := 80) (v := (0 : Int32)) dX12_couldBe_80 (by decide) ?_
  refine mm_istore C (pc := 81) (i := 5) (lv' := [(5, .int (0 : Int32)), (0, va_rf l0), (1, .int l1), (2, .int l2)]) dX12_couldBe_81 (by decide) rfl ?_
  refine mm_sub C [1, 2, 3, 0] rfl ?_
  exact w_X12_couldBe_83 hd C _ _ _ _ _ _ hK
def F_X12_couldBe (a0 : Option Nat) (a1 : Int32) (a2 : Int32) (h : MH) : Option (Int32 × MH) := (gR h a0 12 0).bind fun v1 => (aI h v1 0 ((51 : Int32) + a1)).bind fun v8 => (gR h a0 12 0).bind fun v11 => (aI h v11 0 ((61 : Int32) + a1)).bind fun v18 => mm_b2 (cV h a0 12 (F_X12_isShut a0 v8 h)) fun v23 h23 => if v23 = 0 then (mm_b2 (cV h23 a0 12 (F_X12_isShut a0 v18 h23)) fun v32 h32 => if v32 = 0 then ((gI h32 a0 12 30).bind fun v39 => if v39 = 0 then (F_X12_couldBe_80 a0 a1 a2 h32) else ((gR h32 a0 12 0).bind fun v46 => (aI h32 v46 0 ((48 : Int32) + a2)).bind fun v53 => mm_b2 (F_X12_has v53 v8 h32) fun v55 h55 => if v55 = 0 then (F_X12_couldBe_78 h55) else ((gR h55 a0 12 0).bind fun v62 => (aI h55 v62 0 ((48 : Int32) + a2)).bind fun v69 => mm_b2 (F_X12_has v69 v18 h55) fun v72 h72 => if v72 = 0 then (F_X12_couldBe_78 h72) else (F_X12_couldBe_80 a0 a1 a2 h72)))) else (F_X12_couldBe_78 h32)) else (F_X12_couldBe_78 h23)
set_option maxRecDepth 20000 in
set_option maxHeartbeats 4000000 in
theorem S_X12_couldBe {d : Nat} (hd : 3 ≤ d) {a0 : Option Nat} {a1 : Int32} {a2 : Int32} {h : MH} {r : Int32} {hz : MH} (hK : F_X12_couldBe a0 a1 a2 h = some (r, hz)) : mm_M yX12_couldBe cX12_couldBe 7 (some .boolean) d [va_rf a0, .int a1, .int a2] h (.inr (some (.int r))) hz := by
  refine mm_ofV (by decide +kernel) (by simp [lg_sl, mm_crf, mm_cti, mm_ctl]) (fun V C => ?_)
  rw [show lv_args 0 [va_rf a0, .int a1, .int a2] = [(0, va_rf a0), (1, .int a1), (2, .int a2)] by simp [lv_args, mm_crf, mm_cti, mm_ctl]]
  unfold F_X12_couldBe at hK
  refine mm_aload_n C (pc := 0) 0 dX12_couldBe_0 rfl ?_
  replace hK := mm_bd hK; obtain ⟨v1, e1, hK⟩ := hK
  refine mm_getr C (pc := 1) (k := 0) inGX12 rfl (by decide) wd_1999 dX12_couldBe_1 e1 ?_
  refine mm_bipush C (pc := 4) (v := (51 : Int32)) dX12_couldBe_4 (by decide) ?_
  refine mm_iload_n C (pc := 6) 1 dX12_couldBe_6 rfl ?_
  refine mm_iadd C (pc := 7) dX12_couldBe_7 ?_
  replace hK := mm_bd hK; obtain ⟨v8, e8, hK⟩ := hK
  refine mm_iald C (pc := 8) dX12_couldBe_8 e8 ?_
  refine mm_istore_n C (pc := 9) (i := 3) (lv' := [(3, .int v8), (0, va_rf a0), (1, .int a1), (2, .int a2)]) dX12_couldBe_9 rfl (by decide) rfl ?_
  refine mm_aload_n C (pc := 10) 1 dX12_couldBe_10 rfl ?_
  replace hK := mm_bd hK; obtain ⟨v11, e11, hK⟩ := hK
  refine mm_getr C (pc := 11) (k := 0) inGX12 rfl (by decide) wd_1999 dX12_couldBe_11 e11 ?_
  refine mm_bipush C (pc := 14) (v := (61 : Int32)) dX12_couldBe_14 (by decide) ?_
  refine mm_iload_n C (pc := 16) 2 dX12_couldBe_16 rfl ?_
  refine mm_iadd C (pc := 17) dX12_couldBe_17 ?_
  replace hK := mm_bd hK; obtain ⟨v18, e18, hK⟩ := hK
  refine mm_iald C (pc := 18) dX12_couldBe_18 e18 ?_
  refine mm_istore C (pc := 19) (i := 4) (lv' := [(4, .int v18), (3, .int v8), (0, va_rf a0), (1, .int a1), (2, .int a2)]) dX12_couldBe_19 (by decide) rfl ?_
  refine mm_aload_n C (pc := 21) 2 dX12_couldBe_21 rfl ?_
  refine mm_iload_n C (pc := 22) 1 dX12_couldBe_22 rfl ?_
  replace hK := mm_b2s hK; obtain ⟨v23, h23, e23, hK⟩ := hK
  obtain ⟨o23, e23⟩ := cV_some e23
  refine mm_callV C (pc := 23) (d1 := 2) (As := [.int v8]) (st := []) (vk := (some (.int v23))) ((S_X12_isShut (by omega)) e23) tT_X12_isShut o23 (Or.inr ⟨_, rfl, rfl⟩) wd_2312 wd_2314 wd_89 (by omega) (by decide) rfl (by simp [mm_crf, mm_cti, mm_ctl]) rfl dX12_couldBe_23 ?_
  show V _ _ (.int v23 :: _) _
  refine mm_if_ne C (pc := 26) (tgt := 78) dX12_couldBe_26 (by decide) (fun hc => ?_) (fun hc => ?_)
  · replace hK := mm_in hc hK
    refine mm_sub C [] rfl ?_
    exact w_X12_couldBe_78 hd C _ hK
  · replace hK := mm_ip hc hK
    refine mm_aload_n C (pc := 29) 2 dX12_couldBe_29 rfl ?_
    refine mm_iload C (pc := 30) 0 dX12_couldBe_30 rfl ?_
    replace hK := mm_b2s hK; obtain ⟨v32, h32, e32, hK⟩ := hK
    obtain ⟨o32, e32⟩ := cV_some e32
    refine mm_callV C (pc := 32) (d1 := 2) (As := [.int v18]) (st := []) (vk := (some (.int v32))) ((S_X12_isShut (by omega)) e32) tT_X12_isShut o32 (Or.inr ⟨_, rfl, rfl⟩) wd_2312 wd_2314 wd_89 (by omega) (by decide) rfl (by simp [mm_crf, mm_cti, mm_ctl]) rfl dX12_couldBe_32 ?_
    show V _ _ (.int v32 :: _) _
    refine mm_if_ne C (pc := 35) (tgt := 78) dX12_couldBe_35 (by decide) (fun hc => ?_) (fun hc => ?_)
    · replace hK := mm_in hc hK
      refine mm_sub C [] rfl ?_
      exact w_X12_couldBe_78 hd C _ hK
    · replace hK := mm_ip hc hK
      refine mm_aload_n C (pc := 38) 2 dX12_couldBe_38 rfl ?_
      replace hK := mm_bd hK; obtain ⟨v39, e39, hK⟩ := hK
      refine mm_geti C (pc := 39) (k := 30) inGX12 rfl (by decide) wd_2029 dX12_couldBe_39 e39 ?_
      refine mm_if_eq C (pc := 42) (tgt := 80) dX12_couldBe_42 (by decide) (fun hc => ?_) (fun hc => ?_)
      · replace hK := mm_ip hc hK
        refine mm_sub C [2, 3, 4] rfl ?_
        exact w_X12_couldBe_80 hd C _ _ _ _ hK
      · replace hK := mm_in hc hK
        refine mm_aload_n C (pc := 45) 2 dX12_couldBe_45 rfl ?_
        replace hK := mm_bd hK; obtain ⟨v46, e46, hK⟩ := hK
        refine mm_getr C (pc := 46) (k := 0) inGX12 rfl (by decide) wd_1999 dX12_couldBe_46 e46 ?_
        refine mm_bipush C (pc := 49) (v := (48 : Int32)) dX12_couldBe_49 (by decide) ?_
        refine mm_iload_n C (pc := 51) 4 dX12_couldBe_51 rfl ?_
        refine mm_iadd C (pc := 52) dX12_couldBe_52 ?_
        replace hK := mm_bd hK; obtain ⟨v53, e53, hK⟩ := hK
        refine mm_iald C (pc := 53) dX12_couldBe_53 e53 ?_
        refine mm_iload_n C (pc := 54) 1 dX12_couldBe_54 rfl ?_
        replace hK := mm_b2s hK; obtain ⟨v55, h55, e55, hK⟩ := hK
        refine mm_callS C (pc := 55) (d1 := 1) (As := [.int v53, .int v8]) (st := []) (vk := (some (.int v55))) ((S_X12_has (by omega)) e55) tT_X12_has wd_2316 wd_2317 (by omega) (by decide) rfl (by simp [mm_crf, mm_cti, mm_ctl]) rfl dX12_couldBe_55 ?_
        show V _ _ (.int v55 :: _) _
        refine mm_if_eq C (pc := 58) (tgt := 78) dX12_couldBe_58 (by decide) (fun hc => ?_) (fun hc => ?_)
        · replace hK := mm_ip hc hK
          refine mm_sub C [] rfl ?_
          exact w_X12_couldBe_78 hd C _ hK
        · replace hK := mm_in hc hK
          refine mm_aload_n C (pc := 61) 2 dX12_couldBe_61 rfl ?_
          replace hK := mm_bd hK; obtain ⟨v62, e62, hK⟩ := hK
          refine mm_getr C (pc := 62) (k := 0) inGX12 rfl (by decide) wd_1999 dX12_couldBe_62 e62 ?_
          refine mm_bipush C (pc := 65) (v := (48 : Int32)) dX12_couldBe_65 (by decide) ?_
          refine mm_iload_n C (pc := 67) 4 dX12_couldBe_67 rfl ?_
          refine mm_iadd C (pc := 68) dX12_couldBe_68 ?_
          replace hK := mm_bd hK; obtain ⟨v69, e69, hK⟩ := hK
          refine mm_iald C (pc := 69) dX12_couldBe_69 e69 ?_
          refine mm_iload C (pc := 70) 0 dX12_couldBe_70 rfl ?_
          replace hK := mm_b2s hK; obtain ⟨v72, h72, e72, hK⟩ := hK
          refine mm_callS C (pc := 72) (d1 := 1) (As := [.int v69, .int v18]) (st := []) (vk := (some (.int v72))) ((S_X12_has (by omega)) e72) tT_X12_has wd_2316 wd_2317 (by omega) (by decide) rfl (by simp [mm_crf, mm_cti, mm_ctl]) rfl dX12_couldBe_72 ?_
          show V _ _ (.int v72 :: _) _
          refine mm_if_ne C (pc := 75) (tgt := 80) dX12_couldBe_75 (by decide) (fun hc => ?_) (fun hc => ?_)
          · replace hK := mm_in hc hK
            refine mm_sub C [2, 3, 4] rfl ?_
            exact w_X12_couldBe_80 hd C _ _ _ _ hK
          · replace hK := mm_ip hc hK
            refine mm_sub C [] rfl ?_
            exact w_X12_couldBe_78 hd C _ hK
theorem wd_2027 : Cond.fieldLink RX12 435 "CrossedLinesModel" "mostOn" "I" ∈ lw_good := mm_wd 2027 (by decide +kernel) (by decide +kernel)
theorem wd_2545 : Cond.code yX12_goesCalls cX12_goesCalls 4 none ∈ lw_good := mm_wd 2545 (by decide +kernel) (by decide +kernel)
theorem tT_X12_goesCalls : mm_T yX12_goesCalls cX12_goesCalls 4 none 2 := ⟨wd_2545, wd_170, by decide +kernel, by decide +kernel, by decide +kernel, by decide +kernel⟩
theorem wd_2542 : Cond.methodLink RX12 441 yX12_goesCalls ∈ lw_good := mm_wd 2542 (by decide +kernel) (by decide +kernel)
theorem wd_2544 : Cond.instanceMethod yX12_goesCalls ∈ lw_good := mm_wd 2544 (by decide +kernel) (by decide +kernel)
theorem wd_117 : Cond.selects RX12 yX12_goesCalls yX12_goesCalls ∈ lw_good := mm_wd 117 (by decide +kernel) (by decide +kernel)
theorem wd_2026 : Cond.fieldLink RX12 444 "CrossedLinesModel" "cordsAll" "I" ∈ lw_good := mm_wd 2026 (by decide +kernel) (by decide +kernel)
theorem wd_2549 : Cond.code yX12_couldBe cX12_couldBe 7 (some .boolean) ∈ lw_good := mm_wd 2549 (by decide +kernel) (by decide +kernel)
theorem tT_X12_couldBe : mm_T yX12_couldBe cX12_couldBe 7 (some .boolean) 2 := ⟨wd_2549, wd_170, by decide +kernel, by decide +kernel, by decide +kernel, by decide +kernel⟩
theorem wd_2546 : Cond.methodLink RX12 447 yX12_couldBe ∈ lw_good := mm_wd 2546 (by decide +kernel) (by decide +kernel)
theorem wd_2548 : Cond.instanceMethod yX12_couldBe ∈ lw_good := mm_wd 2548 (by decide +kernel) (by decide +kernel)
theorem wd_118 : Cond.selects RX12 yX12_couldBe yX12_couldBe ∈ lw_good := mm_wd 118 (by decide +kernel) (by decide +kernel)
theorem wd_2028 : Cond.fieldLink RX12 438 "CrossedLinesModel" "mostSet" "I" ∈ lw_good := mm_wd 2028 (by decide +kernel) (by decide +kernel)
abbrev PT_X12_goesCalls : Type := (Option Nat → Int32 → Int32 → MH → Option MH)
def PH_X12_goesCalls (p : PT_X12_goesCalls) (d0 : Nat) : Prop := (∀ d : Nat, d0 ≤ d → ∀ {a0 : Option Nat} {a1 : Int32} {a2 : Int32} {h : MH} {hz : MH}, p a0 a1 a2 h = some hz → mm_M yX12_goesCalls cX12_goesCalls 4 none d [va_rf a0, .int a1, .int a2] h (.inr none) hz)
def F_X12_goesCalls_172 (p : PT_X12_goesCalls) (h : MH) : Option MH := some h
set_option maxRecDepth 20000 in
set_option maxHeartbeats 4000000 in
theorem w_X12_goesCalls_172 {d : Nat} {V : Nat → List (Nat × Value) → List Value → MH → Prop} {hz : MH} {p : PT_X12_goesCalls} {d0 : Nat} (hd0 : d0 + 1 ≤ d) (hp : PH_X12_goesCalls p d0) (hd : 4 ≤ d) (C : mm_C d yX12_goesCalls cX12_goesCalls 4 none (.inr none) hz V) (h : MH) (hK : F_X12_goesCalls_172 p  h = some hz) : V 172 [] [] h := by
  unfold F_X12_goesCalls_172 at hK
  cases hK
  exact mm_vret C (pc := 172) rfl dX12_goesCalls_172 rfl rfl
def F_X12_goesCalls_166 (p : PT_X12_goesCalls) (k89 : Option Nat → Int32 → Int32 → Int32 → MH → Option MH) (l0 : Option Nat) (l1 : Int32) (l2 : Int32) (l3 : Int32) (h : MH) : Option MH := k89 l0 l1 l2 (l3 + (1 : Int32)) h
set_option maxRecDepth 20000 in
set_option maxHeartbeats 4000000 in
theorem w_X12_goesCalls_166 {d : Nat} {V : Nat → List (Nat × Value) → List Value → MH → Prop} {hz : MH} {p : PT_X12_goesCalls} {d0 : Nat} (hd0 : d0 + 1 ≤ d) (hp : PH_X12_goesCalls p d0) {k89 : Option Nat → Int32 → Int32 → Int32 → MH → Option MH} (hd : 4 ≤ d) (C : mm_C d yX12_goesCalls cX12_goesCalls 4 none (.inr none) hz V) (q89 : ∀ (x0 : Option Nat) (x1 : Int32) (x2 : Int32) (x3 : Int32) (h : MH), k89 x0 x1 x2 x3 h = some hz → V 89 [(0, va_rf x0), (1, .int x1), (2, .int x2), (3, .int x3)] [] h) (l0 : Option Nat) (l1 : Int32) (l2 : Int32) (l3 : Int32) (h : MH) (hK : F_X12_goesCalls_166 p k89 l0 l1 l2 l3 h = some hz) : V 166 [(0, va_rf l0), (1, .int l1), (2, .int l2), (3, .int l3)] [] h := by
  unfold F_X12_goesCalls_166 at hK
  refine mm_iinc C (pc := 166) (v := (l3 + (1 : Int32))) (lv' := [(3, .int (l3 + (1 : Int32))), (0, va_rf l0), (1, .int l1), (2, .int l2)]) 3 dX12_goesCalls_166 rfl rfl (by decide) rfl ?_
  refine mm_goto C (pc := 169) (tgt := 89) dX12_goesCalls_169 (by decide) ?_
  refine mm_sub C [1, 2, 3, 0] rfl ?_
  exact q89 _ _ _ _ _ hK
def F_X12_goesCalls_89 (p : PT_X12_goesCalls) : Nat → Option Nat → Int32 → Int32 → Int32 → MH → Option MH
  | 0 => fun _ _ _ _ _ => none
  | n + 1 => fun l0 l1 l2 l3 h => (gI h l0 12 27).bind fun v91 => if v91 ≤ l3 then (F_X12_goesCalls_172 p h) else ((gR h l0 12 0).bind fun v98 => (aI h v98 0 ((8 : Int32) + l1)).bind fun v105 => if v105 = 0 then ((gR h l0 12 0).bind fun v110 => (aI h v110 0 ((71 : Int32) + l1)).bind fun v117 => (gR h l0 12 0).bind fun v119 => (aI h v119 0 (47 : Int32)).bind fun v124 => if v117 < v124 then (F_X12_goesCalls_172 p h) else (mm_b2 (cV h l0 12 (F_X12_couldBe l0 l1 l3 h)) fun v131 h131 => if v131 = 0 then (F_X12_goesCalls_166 p (F_X12_goesCalls_89 p n) l0 l1 l2 l3 h131) else ((gR h131 l0 12 26).bind fun v141 => (sI h131 v141 0 l1 l3).bind fun h146 => (cV h146 l0 12 (p l0 (l1 + (1 : Int32)) (l2 ||| ((1 : Int32) <<< (l1 &&& 31))) h146)).bind fun h156 => (gR h156 l0 12 26).bind fun v160 => (sI h156 v160 0 l1 ((-1) : Int32)).bind fun h165 => F_X12_goesCalls_166 p (F_X12_goesCalls_89 p n) l0 l1 l2 l3 h165))) else (F_X12_goesCalls_172 p h))
set_option maxRecDepth 20000 in
set_option maxHeartbeats 4000000 in
theorem w_X12_goesCalls_89 {d : Nat} {V : Nat → List (Nat × Value) → List Value → MH → Prop} {hz : MH} {p : PT_X12_goesCalls} {d0 : Nat} (hd0 : d0 + 1 ≤ d) (hp : PH_X12_goesCalls p d0) (hd : 4 ≤ d) (C : mm_C d yX12_goesCalls cX12_goesCalls 4 none (.inr none) hz V) : ∀ (n : Nat) (l0 : Option Nat) (l1 : Int32) (l2 : Int32) (l3 : Int32) (h : MH), F_X12_goesCalls_89 p n l0 l1 l2 l3 h = some hz → V 89 [(0, va_rf l0), (1, .int l1), (2, .int l2), (3, .int l3)] [] h := by
  intro n
  induction n with
  | zero => intro l0 l1 l2 l3 h hK; cases hK
  | succ n ih =>
    intro l0 l1 l2 l3 h hK
    replace hK : ((gI h l0 12 27).bind fun v91 => if v91 ≤ l3 then (F_X12_goesCalls_172 p h) else ((gR h l0 12 0).bind fun v98 => (aI h v98 0 ((8 : Int32) + l1)).bind fun v105 => if v105 = 0 then ((gR h l0 12 0).bind fun v110 => (aI h v110 0 ((71 : Int32) + l1)).bind fun v117 => (gR h l0 12 0).bind fun v119 => (aI h v119 0 (47 : Int32)).bind fun v124 => if v117 < v124 then (F_X12_goesCalls_172 p h) else (mm_b2 (cV h l0 12 (F_X12_couldBe l0 l1 l3 h)) fun v131 h131 => if v131 = 0 then (F_X12_goesCalls_166 p (F_X12_goesCalls_89 p n) l0 l1 l2 l3 h131) else ((gR h131 l0 12 26).bind fun v141 => (sI h131 v141 0 l1 l3).bind fun h146 => (cV h146 l0 12 (p l0 (l1 + (1 : Int32)) (l2 ||| ((1 : Int32) <<< (l1 &&& 31))) h146)).bind fun h156 => (gR h156 l0 12 26).bind fun v160 => (sI h156 v160 0 l1 ((-1) : Int32)).bind fun h165 => F_X12_goesCalls_166 p (F_X12_goesCalls_89 p n) l0 l1 l2 l3 h165))) else (F_X12_goesCalls_172 p h))) = some hz := hK
    refine mm_iload_n C (pc := 89) 3 dX12_goesCalls_89 rfl ?_
    refine mm_aload_n C (pc := 90) 0 dX12_goesCalls_90 rfl ?_
    replace hK := mm_bd hK; obtain ⟨v91, e91, hK⟩ := hK
    refine mm_geti C (pc := 91) (k := 27) inGX12 rfl (by decide) wd_2026 dX12_goesCalls_91 e91 ?_
    refine mm_icmp_ge C (pc := 94) (tgt := 172) dX12_goesCalls_94 (by decide) (fun hc => ?_) (fun hc => ?_)
    · replace hK := mm_ip hc hK
      refine mm_sub C [] rfl ?_
      exact w_X12_goesCalls_172 hd0 hp hd C _ hK
    · replace hK := mm_in hc hK
      refine mm_aload_n C (pc := 97) 0 dX12_goesCalls_97 rfl ?_
      replace hK := mm_bd hK; obtain ⟨v98, e98, hK⟩ := hK
      refine mm_getr C (pc := 98) (k := 0) inGX12 rfl (by decide) wd_1999 dX12_goesCalls_98 e98 ?_
      refine mm_bipush C (pc := 101) (v := (8 : Int32)) dX12_goesCalls_101 (by decide) ?_
      refine mm_iload_n C (pc := 103) 1 dX12_goesCalls_103 rfl ?_
      refine mm_iadd C (pc := 104) dX12_goesCalls_104 ?_
      replace hK := mm_bd hK; obtain ⟨v105, e105, hK⟩ := hK
      refine mm_iald C (pc := 105) dX12_goesCalls_105 e105 ?_
      refine mm_if_ne C (pc := 106) (tgt := 172) dX12_goesCalls_106 (by decide) (fun hc => ?_) (fun hc => ?_)
      · replace hK := mm_in hc hK
        refine mm_sub C [] rfl ?_
        exact w_X12_goesCalls_172 hd0 hp hd C _ hK
      · replace hK := mm_ip hc hK
        refine mm_aload_n C (pc := 109) 0 dX12_goesCalls_109 rfl ?_
        replace hK := mm_bd hK; obtain ⟨v110, e110, hK⟩ := hK
        refine mm_getr C (pc := 110) (k := 0) inGX12 rfl (by decide) wd_1999 dX12_goesCalls_110 e110 ?_
        refine mm_bipush C (pc := 113) (v := (71 : Int32)) dX12_goesCalls_113 (by decide) ?_
        refine mm_iload_n C (pc := 115) 1 dX12_goesCalls_115 rfl ?_
        refine mm_iadd C (pc := 116) dX12_goesCalls_116 ?_
        replace hK := mm_bd hK; obtain ⟨v117, e117, hK⟩ := hK
        refine mm_iald C (pc := 117) dX12_goesCalls_117 e117 ?_
        refine mm_aload_n C (pc := 118) 0 dX12_goesCalls_118 rfl ?_
        replace hK := mm_bd hK; obtain ⟨v119, e119, hK⟩ := hK
        refine mm_getr C (pc := 119) (k := 0) inGX12 rfl (by decide) wd_1999 dX12_goesCalls_119 e119 ?_
        refine mm_bipush C (pc := 122) (v := (47 : Int32)) dX12_goesCalls_122 (by decide) ?_
        replace hK := mm_bd hK; obtain ⟨v124, e124, hK⟩ := hK
        refine mm_iald C (pc := 124) dX12_goesCalls_124 e124 ?_
        refine mm_icmp_lt C (pc := 125) (tgt := 172) dX12_goesCalls_125 (by decide) (fun hc => ?_) (fun hc => ?_)
        · replace hK := mm_ip hc hK
          refine mm_sub C [] rfl ?_
          exact w_X12_goesCalls_172 hd0 hp hd C _ hK
        · replace hK := mm_in hc hK
          refine mm_aload_n C (pc := 128) 0 dX12_goesCalls_128 rfl ?_
          refine mm_iload_n C (pc := 129) 1 dX12_goesCalls_129 rfl ?_
          refine mm_iload_n C (pc := 130) 3 dX12_goesCalls_130 rfl ?_
          replace hK := mm_b2s hK; obtain ⟨v131, h131, e131, hK⟩ := hK
          obtain ⟨o131, e131⟩ := cV_some e131
          refine mm_callV C (pc := 131) (d1 := 3) (As := [.int l1, .int l3]) (st := []) (vk := (some (.int v131))) ((S_X12_couldBe (by omega)) e131) tT_X12_couldBe o131 (Or.inr ⟨_, rfl, rfl⟩) wd_2546 wd_2548 wd_118 (by omega) (by decide) rfl (by simp [mm_crf, mm_cti, mm_ctl]) rfl dX12_goesCalls_131 ?_
          show V _ _ (.int v131 :: _) _
          refine mm_if_ne C (pc := 134) (tgt := 140) dX12_goesCalls_134 (by decide) (fun hc => ?_) (fun hc => ?_)
          · replace hK := mm_in hc hK
            refine mm_aload_n C (pc := 140) 0 dX12_goesCalls_140 rfl ?_
            replace hK := mm_bd hK; obtain ⟨v141, e141, hK⟩ := hK
            refine mm_getr C (pc := 141) (k := 26) inGX12 rfl (by decide) wd_2025 dX12_goesCalls_141 e141 ?_
            refine mm_iload_n C (pc := 144) 1 dX12_goesCalls_144 rfl ?_
            refine mm_iload_n C (pc := 145) 3 dX12_goesCalls_145 rfl ?_
            replace hK := mm_bd hK; obtain ⟨h146, e146, hK⟩ := hK
            refine mm_iast C (pc := 146) dX12_goesCalls_146 e146 ?_
            refine mm_aload_n C (pc := 147) 0 dX12_goesCalls_147 rfl ?_
            refine mm_iload_n C (pc := 148) 1 dX12_goesCalls_148 rfl ?_
            refine mm_iconst C (pc := 149) (v := (1 : Int32)) dX12_goesCalls_149 (by decide) ?_
            refine mm_iadd C (pc := 150) dX12_goesCalls_150 ?_
            refine mm_iload_n C (pc := 151) 2 dX12_goesCalls_151 rfl ?_
            refine mm_iconst C (pc := 152) (v := (1 : Int32)) dX12_goesCalls_152 (by decide) ?_
            refine mm_iload_n C (pc := 153) 1 dX12_goesCalls_153 rfl ?_
            refine mm_ishl C (pc := 154) dX12_goesCalls_154 ?_
            refine mm_ior C (pc := 155) dX12_goesCalls_155 ?_
            replace hK := mm_bd hK; obtain ⟨h156, e156, hK⟩ := hK
            obtain ⟨o156, e156⟩ := cV_some e156
            refine mm_callV C (pc := 156) (d1 := d0) (As := [.int (l1 + (1 : Int32)), .int (l2 ||| ((1 : Int32) <<< (l1 &&& 31)))]) (st := []) (vk := none) ((hp _ (by omega) ) e156) tT_X12_goesCalls o156 (Or.inr ⟨_, rfl, rfl⟩) wd_2542 wd_2544 wd_117 (by omega) (by decide) rfl (by simp [mm_crf, mm_cti, mm_ctl]) rfl dX12_goesCalls_156 ?_
            show V _ _ [] _
            refine mm_aload_n C (pc := 159) 0 dX12_goesCalls_159 rfl ?_
            replace hK := mm_bd hK; obtain ⟨v160, e160, hK⟩ := hK
            refine mm_getr C (pc := 160) (k := 26) inGX12 rfl (by decide) wd_2025 dX12_goesCalls_160 e160 ?_
            refine mm_iload_n C (pc := 163) 1 dX12_goesCalls_163 rfl ?_
            refine mm_iconst C (pc := 164) (v := ((-1) : Int32)) dX12_goesCalls_164 (by decide) ?_
            replace hK := mm_bd hK; obtain ⟨h165, e165, hK⟩ := hK
            refine mm_iast C (pc := 165) dX12_goesCalls_165 e165 ?_
            exact w_X12_goesCalls_166 hd0 hp hd C (fun z0 z1 z2 z3 z4 hK => ih z0 z1 z2 z3 z4 hK) _ _ _ _ _ hK
          · replace hK := mm_ip hc hK
            refine mm_goto C (pc := 137) (tgt := 166) dX12_goesCalls_137 (by decide) ?_
            exact w_X12_goesCalls_166 hd0 hp hd C (fun z0 z1 z2 z3 z4 hK => ih z0 z1 z2 z3 z4 hK) _ _ _ _ _ hK
def F_X12_goesCalls_38 (p : PT_X12_goesCalls) (h : MH) : Option MH := some h
set_option maxRecDepth 20000 in
set_option maxHeartbeats 4000000 in
theorem w_X12_goesCalls_38 {d : Nat} {V : Nat → List (Nat × Value) → List Value → MH → Prop} {hz : MH} {p : PT_X12_goesCalls} {d0 : Nat} (hd0 : d0 + 1 ≤ d) (hp : PH_X12_goesCalls p d0) (hd : 4 ≤ d) (C : mm_C d yX12_goesCalls cX12_goesCalls 4 none (.inr none) hz V) (h : MH) (hK : F_X12_goesCalls_38 p  h = some hz) : V 38 [] [] h := by
  unfold F_X12_goesCalls_38 at hK
  cases hK
  exact mm_vret C (pc := 38) rfl dX12_goesCalls_38 rfl rfl
def F_X12_goesCalls_39 (p : PT_X12_goesCalls) (l0 : Option Nat) (l2 : Int32) (h : MH) : Option MH := mm_b2 (F_X12_size l2 h) fun v41 h41 => (pI h41 l0 12 28 v41).bind fun h44 => (pI h44 l0 12 29 l2).bind fun h49 => some h49
set_option maxRecDepth 20000 in
set_option maxHeartbeats 4000000 in
theorem w_X12_goesCalls_39 {d : Nat} {V : Nat → List (Nat × Value) → List Value → MH → Prop} {hz : MH} {p : PT_X12_goesCalls} {d0 : Nat} (hd0 : d0 + 1 ≤ d) (hp : PH_X12_goesCalls p d0) (hd : 4 ≤ d) (C : mm_C d yX12_goesCalls cX12_goesCalls 4 none (.inr none) hz V) (l0 : Option Nat) (l2 : Int32) (h : MH) (hK : F_X12_goesCalls_39 p l0 l2 h = some hz) : V 39 [(0, va_rf l0), (2, .int l2)] [] h := by
  unfold F_X12_goesCalls_39 at hK
  refine mm_aload_n C (pc := 39) 0 dX12_goesCalls_39 rfl ?_
  refine mm_iload_n C (pc := 40) 1 dX12_goesCalls_40 rfl ?_
  replace hK := mm_b2s hK; obtain ⟨v41, h41, e41, hK⟩ := hK
  refine mm_callS C (pc := 41) (d1 := 1) (As := [.int l2]) (st := [va_rf l0]) (vk := (some (.int v41))) ((S_X12_size (by omega)) e41) tT_X12_size wd_2424 wd_2425 (by omega) (by decide) rfl (by simp [mm_crf, mm_cti, mm_ctl]) rfl dX12_goesCalls_41 ?_
  show V _ _ (.int v41 :: _) _
  replace hK := mm_bd hK; obtain ⟨h44, e44, hK⟩ := hK
  refine mm_puti C (pc := 44) (k := 28) false (fun z => by cases z) inGX12 tyX12 tyX12_ok nmX12 rfl (by decide) wd_2027 rfl rfl dX12_goesCalls_44 e44 ?_
  refine mm_aload_n C (pc := 47) 0 dX12_goesCalls_47 rfl ?_
  refine mm_iload_n C (pc := 48) 1 dX12_goesCalls_48 rfl ?_
  replace hK := mm_bd hK; obtain ⟨h49, e49, hK⟩ := hK
  refine mm_puti C (pc := 49) (k := 29) false (fun z => by cases z) inGX12 tyX12 tyX12_ok nmX12 rfl (by decide) wd_2028 rfl rfl dX12_goesCalls_49 e49 ?_
  cases hK
  exact mm_vret C (pc := 52) rfl dX12_goesCalls_52 rfl rfl
def F_X12_goesCalls (p : PT_X12_goesCalls) (a0 : Option Nat) (a1 : Int32) (a2 : Int32) (h : MH) : Option MH := mm_b2 (cV h a0 12 (F_X12_calls a0 h)) fun v2 h2 => if a1 = v2 then (mm_b2 (F_X12_size a2 h2) fun v9 h9 => (gI h9 a0 12 28).bind fun v13 => if v9 < v13 then (F_X12_goesCalls_38 p h9) else (mm_b2 (F_X12_size a2 h9) fun v20 h20 => (gI h20 a0 12 28).bind fun v24 => if v20 = v24 then ((gI h20 a0 12 29).bind fun v32 => if a2 < v32 then (F_X12_goesCalls_39 p a0 a2 h20) else (F_X12_goesCalls_38 p h20)) else (F_X12_goesCalls_39 p a0 a2 h20))) else (mm_b2 (F_X12_size a2 h2) fun v54 h54 => mm_b2 (cV h54 a0 12 (F_X12_calls a0 h54)) fun v58 h58 => (gI h58 a0 12 28).bind fun v65 => if v65 ≤ ((v54 + v58) - a1) then ((gR h58 a0 12 26).bind fun v73 => (sI h58 v73 0 a1 ((-1) : Int32)).bind fun h78 => (cV h78 a0 12 (p a0 (a1 + (1 : Int32)) a2 h78)).bind fun h84 => F_X12_goesCalls_89 p mm_N a0 a1 a2 (0 : Int32) h84) else (some h58))
set_option maxRecDepth 20000 in
set_option maxHeartbeats 4000000 in
theorem S_X12_goesCalls {d : Nat} {p : PT_X12_goesCalls} {d0 : Nat} (hd0 : d0 + 1 ≤ d) (hp : PH_X12_goesCalls p d0) (hd : 4 ≤ d) {a0 : Option Nat} {a1 : Int32} {a2 : Int32} {h : MH} {hz : MH} (hK : F_X12_goesCalls p a0 a1 a2 h = some hz) : mm_M yX12_goesCalls cX12_goesCalls 4 none d [va_rf a0, .int a1, .int a2] h (.inr none) hz := by
  refine mm_ofV (by decide +kernel) (by simp [lg_sl, mm_crf, mm_cti, mm_ctl]) (fun V C => ?_)
  rw [show lv_args 0 [va_rf a0, .int a1, .int a2] = [(0, va_rf a0), (1, .int a1), (2, .int a2)] by simp [lv_args, mm_crf, mm_cti, mm_ctl]]
  unfold F_X12_goesCalls at hK
  refine mm_iload_n C (pc := 0) 1 dX12_goesCalls_0 rfl ?_
  refine mm_aload_n C (pc := 1) 0 dX12_goesCalls_1 rfl ?_
  replace hK := mm_b2s hK; obtain ⟨v2, h2, e2, hK⟩ := hK
  obtain ⟨o2, e2⟩ := cV_some e2
  refine mm_callV C (pc := 2) (d1 := 1) (As := []) (st := [.int a1]) (vk := (some (.int v2))) ((S_X12_calls (by omega)) e2) tT_X12_calls o2 (Or.inr ⟨_, rfl, rfl⟩) wd_2295 wd_2297 wd_87 (by omega) (by decide) rfl (by simp [mm_crf, mm_cti, mm_ctl]) rfl dX12_goesCalls_2 ?_
  show V _ _ (.int v2 :: _) _
  refine mm_icmp_ne C (pc := 5) (tgt := 53) dX12_goesCalls_5 (by decide) (fun hc => ?_) (fun hc => ?_)
  · replace hK := mm_in hc hK
    refine mm_iload_n C (pc := 53) 2 dX12_goesCalls_53 rfl ?_
    replace hK := mm_b2s hK; obtain ⟨v54, h54, e54, hK⟩ := hK
    refine mm_callS C (pc := 54) (d1 := 1) (As := [.int a2]) (st := []) (vk := (some (.int v54))) ((S_X12_size (by omega)) e54) tT_X12_size wd_2424 wd_2425 (by omega) (by decide) rfl (by simp [mm_crf, mm_cti, mm_ctl]) rfl dX12_goesCalls_54 ?_
    show V _ _ (.int v54 :: _) _
    refine mm_aload_n C (pc := 57) 0 dX12_goesCalls_57 rfl ?_
    replace hK := mm_b2s hK; obtain ⟨v58, h58, e58, hK⟩ := hK
    obtain ⟨o58, e58⟩ := cV_some e58
    refine mm_callV C (pc := 58) (d1 := 1) (As := []) (st := [.int v54]) (vk := (some (.int v58))) ((S_X12_calls (by omega)) e58) tT_X12_calls o58 (Or.inr ⟨_, rfl, rfl⟩) wd_2295 wd_2297 wd_87 (by omega) (by decide) rfl (by simp [mm_crf, mm_cti, mm_ctl]) rfl dX12_goesCalls_58 ?_
    show V _ _ (.int v58 :: _) _
    refine mm_iadd C (pc := 61) dX12_goesCalls_61 ?_
    refine mm_iload_n C (pc := 62) 1 dX12_goesCalls_62 rfl ?_
    refine mm_isub C (pc := 63) dX12_goesCalls_63 ?_
    refine mm_aload_n C (pc := 64) 0 dX12_goesCalls_64 rfl ?_
    replace hK := mm_bd hK; obtain ⟨v65, e65, hK⟩ := hK
    refine mm_geti C (pc := 65) (k := 28) inGX12 rfl (by decide) wd_2027 dX12_goesCalls_65 e65 ?_
    refine mm_icmp_ge C (pc := 68) (tgt := 72) dX12_goesCalls_68 (by decide) (fun hc => ?_) (fun hc => ?_)
    · replace hK := mm_ip hc hK
      refine mm_aload_n C (pc := 72) 0 dX12_goesCalls_72 rfl ?_
      replace hK := mm_bd hK; obtain ⟨v73, e73, hK⟩ := hK
      refine mm_getr C (pc := 73) (k := 26) inGX12 rfl (by decide) wd_2025 dX12_goesCalls_73 e73 ?_
      refine mm_iload_n C (pc := 76) 1 dX12_goesCalls_76 rfl ?_
      refine mm_iconst C (pc := 77) (v := ((-1) : Int32)) dX12_goesCalls_77 (by decide) ?_
      replace hK := mm_bd hK; obtain ⟨h78, e78, hK⟩ := hK
      refine mm_iast C (pc := 78) dX12_goesCalls_78 e78 ?_
      refine mm_aload_n C (pc := 79) 0 dX12_goesCalls_79 rfl ?_
      refine mm_iload_n C (pc := 80) 1 dX12_goesCalls_80 rfl ?_
      refine mm_iconst C (pc := 81) (v := (1 : Int32)) dX12_goesCalls_81 (by decide) ?_
      refine mm_iadd C (pc := 82) dX12_goesCalls_82 ?_
      refine mm_iload_n C (pc := 83) 2 dX12_goesCalls_83 rfl ?_
      replace hK := mm_bd hK; obtain ⟨h84, e84, hK⟩ := hK
      obtain ⟨o84, e84⟩ := cV_some e84
      refine mm_callV C (pc := 84) (d1 := d0) (As := [.int (a1 + (1 : Int32)), .int a2]) (st := []) (vk := none) ((hp _ (by omega) ) e84) tT_X12_goesCalls o84 (Or.inr ⟨_, rfl, rfl⟩) wd_2542 wd_2544 wd_117 (by omega) (by decide) rfl (by simp [mm_crf, mm_cti, mm_ctl]) rfl dX12_goesCalls_84 ?_
      show V _ _ [] _
      refine mm_iconst C (pc := 87) (v := (0 : Int32)) dX12_goesCalls_87 (by decide) ?_
      refine mm_istore_n C (pc := 88) (i := 3) (lv' := [(3, .int (0 : Int32)), (0, va_rf a0), (1, .int a1), (2, .int a2)]) dX12_goesCalls_88 rfl (by decide) rfl ?_
      refine mm_sub C [1, 2, 3, 0] rfl ?_
      exact w_X12_goesCalls_89 hd0 hp hd C _ _ _ _ _ _ hK
    · replace hK := mm_in hc hK
      cases hK
      exact mm_vret C (pc := 71) rfl dX12_goesCalls_71 rfl rfl
  · replace hK := mm_ip hc hK
    refine mm_iload_n C (pc := 8) 2 dX12_goesCalls_8 rfl ?_
    replace hK := mm_b2s hK; obtain ⟨v9, h9, e9, hK⟩ := hK
    refine mm_callS C (pc := 9) (d1 := 1) (As := [.int a2]) (st := []) (vk := (some (.int v9))) ((S_X12_size (by omega)) e9) tT_X12_size wd_2424 wd_2425 (by omega) (by decide) rfl (by simp [mm_crf, mm_cti, mm_ctl]) rfl dX12_goesCalls_9 ?_
    show V _ _ (.int v9 :: _) _
    refine mm_aload_n C (pc := 12) 0 dX12_goesCalls_12 rfl ?_
    replace hK := mm_bd hK; obtain ⟨v13, e13, hK⟩ := hK
    refine mm_geti C (pc := 13) (k := 28) inGX12 rfl (by decide) wd_2027 dX12_goesCalls_13 e13 ?_
    refine mm_icmp_lt C (pc := 16) (tgt := 38) dX12_goesCalls_16 (by decide) (fun hc => ?_) (fun hc => ?_)
    · replace hK := mm_ip hc hK
      refine mm_sub C [] rfl ?_
      exact w_X12_goesCalls_38 hd0 hp hd C _ hK
    · replace hK := mm_in hc hK
      refine mm_iload_n C (pc := 19) 2 dX12_goesCalls_19 rfl ?_
      replace hK := mm_b2s hK; obtain ⟨v20, h20, e20, hK⟩ := hK
      refine mm_callS C (pc := 20) (d1 := 1) (As := [.int a2]) (st := []) (vk := (some (.int v20))) ((S_X12_size (by omega)) e20) tT_X12_size wd_2424 wd_2425 (by omega) (by decide) rfl (by simp [mm_crf, mm_cti, mm_ctl]) rfl dX12_goesCalls_20 ?_
      show V _ _ (.int v20 :: _) _
      refine mm_aload_n C (pc := 23) 0 dX12_goesCalls_23 rfl ?_
      replace hK := mm_bd hK; obtain ⟨v24, e24, hK⟩ := hK
      refine mm_geti C (pc := 24) (k := 28) inGX12 rfl (by decide) wd_2027 dX12_goesCalls_24 e24 ?_
      refine mm_icmp_ne C (pc := 27) (tgt := 39) dX12_goesCalls_27 (by decide) (fun hc => ?_) (fun hc => ?_)
      · replace hK := mm_in hc hK
        refine mm_sub C [0, 2] rfl ?_
        exact w_X12_goesCalls_39 hd0 hp hd C _ _ _ hK
      · replace hK := mm_ip hc hK
        refine mm_iload_n C (pc := 30) 2 dX12_goesCalls_30 rfl ?_
        refine mm_aload_n C (pc := 31) 0 dX12_goesCalls_31 rfl ?_
        replace hK := mm_bd hK; obtain ⟨v32, e32, hK⟩ := hK
        refine mm_geti C (pc := 32) (k := 29) inGX12 rfl (by decide) wd_2028 dX12_goesCalls_32 e32 ?_
        refine mm_icmp_lt C (pc := 35) (tgt := 39) dX12_goesCalls_35 (by decide) (fun hc => ?_) (fun hc => ?_)
        · replace hK := mm_ip hc hK
          refine mm_sub C [0, 2] rfl ?_
          exact w_X12_goesCalls_39 hd0 hp hd C _ _ _ hK
        · replace hK := mm_in hc hK
          refine mm_sub C [] rfl ?_
          exact w_X12_goesCalls_38 hd0 hp hd C _ hK
def G_X12_goesCalls : Nat → PT_X12_goesCalls
  | 0 => ((fun _ _ _ _ => none))
  | n + 1 => ((fun a0 a1 a2 h => F_X12_goesCalls (G_X12_goesCalls n) a0 a1 a2 h))
theorem S_G_X12_goesCalls : ∀ n : Nat, PH_X12_goesCalls (G_X12_goesCalls n) (4 + n) := by
  intro n
  induction n with
  | zero => exact (fun d hd _ _ _ _ _ hK => (by cases hK))
  | succ n ih => exact (fun d hd _ _ _ _ _ hK => S_X12_goesCalls (p := G_X12_goesCalls n) (d0 := 4 + n) (by omega) ih (by omega) hK)
def F_X12_laysBest (a0 : Option Nat) (a1 : Int32) (a2 : Int32) (h : MH) : Option MH := (pI h a0 12 27 a1).bind fun h2 => (pZ h2 a0 12 30 a2).bind fun h7 => (pI h7 a0 12 28 ((-1) : Int32)).bind fun h12 => (pI h12 a0 12 29 (536870912 : Int32)).bind fun h19 => (cV h19 a0 12 ((G_X12_goesCalls 64) a0 (0 : Int32) (0 : Int32) h19)).bind fun h25 => some h25
set_option maxRecDepth 20000 in
set_option maxHeartbeats 4000000 in
theorem S_X12_laysBest {d : Nat} (hd : 69 ≤ d) {a0 : Option Nat} {a1 : Int32} {a2 : Int32} {h : MH} {hz : MH} (hK : F_X12_laysBest a0 a1 a2 h = some hz) : mm_M yX12_laysBest cX12_laysBest 3 none d [va_rf a0, .int a1, .int a2] h (.inr none) hz := by
  refine mm_ofV (by decide +kernel) (by simp [lg_sl, mm_crf, mm_cti, mm_ctl]) (fun V C => ?_)
  rw [show lv_args 0 [va_rf a0, .int a1, .int a2] = [(0, va_rf a0), (1, .int a1), (2, .int a2)] by simp [lv_args, mm_crf, mm_cti, mm_ctl]]
  unfold F_X12_laysBest at hK
  refine mm_aload_n C (pc := 0) 0 dX12_laysBest_0 rfl ?_
  refine mm_iload_n C (pc := 1) 1 dX12_laysBest_1 rfl ?_
  replace hK := mm_bd hK; obtain ⟨h2, e2, hK⟩ := hK
  refine mm_puti C (pc := 2) (k := 27) false (fun z => by cases z) inGX12 tyX12 tyX12_ok nmX12 rfl (by decide) wd_2026 rfl rfl dX12_laysBest_2 e2 ?_
  refine mm_aload_n C (pc := 5) 0 dX12_laysBest_5 rfl ?_
  refine mm_iload_n C (pc := 6) 2 dX12_laysBest_6 rfl ?_
  replace hK := mm_bd hK; obtain ⟨h7, e7, hK⟩ := hK
  refine mm_putz C (pc := 7) (k := 30) false (fun z => by cases z) inGX12 tyX12 tyX12_ok nmX12 rfl (by decide) wd_2029 rfl rfl dX12_laysBest_7 e7 ?_
  refine mm_aload_n C (pc := 10) 0 dX12_laysBest_10 rfl ?_
  refine mm_iconst C (pc := 11) (v := ((-1) : Int32)) dX12_laysBest_11 (by decide) ?_
  replace hK := mm_bd hK; obtain ⟨h12, e12, hK⟩ := hK
  refine mm_puti C (pc := 12) (k := 28) false (fun z => by cases z) inGX12 tyX12 tyX12_ok nmX12 rfl (by decide) wd_2027 rfl rfl dX12_laysBest_12 e12 ?_
  refine mm_aload_n C (pc := 15) 0 dX12_laysBest_15 rfl ?_
  refine mm_ldcw C (pc := 16) (v := (536870912 : Int32)) dX12_laysBest_16 wd_2533 ?_
  replace hK := mm_bd hK; obtain ⟨h19, e19, hK⟩ := hK
  refine mm_puti C (pc := 19) (k := 29) false (fun z => by cases z) inGX12 tyX12 tyX12_ok nmX12 rfl (by decide) wd_2028 rfl rfl dX12_laysBest_19 e19 ?_
  refine mm_aload_n C (pc := 22) 0 dX12_laysBest_22 rfl ?_
  refine mm_iconst C (pc := 23) (v := (0 : Int32)) dX12_laysBest_23 (by decide) ?_
  refine mm_iconst C (pc := 24) (v := (0 : Int32)) dX12_laysBest_24 (by decide) ?_
  replace hK := mm_bd hK; obtain ⟨h25, e25, hK⟩ := hK
  obtain ⟨o25, e25⟩ := cV_some e25
  refine mm_callV C (pc := 25) (d1 := 68) (As := [.int (0 : Int32), .int (0 : Int32)]) (st := []) (vk := none) (((S_G_X12_goesCalls 64) _ (by omega)) e25) tT_X12_goesCalls o25 (Or.inr ⟨_, rfl, rfl⟩) wd_2542 wd_2544 wd_117 (by omega) (by decide) rfl (by simp [mm_crf, mm_cti, mm_ctl]) rfl dX12_laysBest_25 ?_
  show V _ _ [] _
  cases hK
  exact mm_vret C (pc := 28) rfl dX12_laysBest_28 rfl rfl
theorem wd_2541 : Cond.code yX12_laysBest cX12_laysBest 3 none ∈ lw_good := mm_wd 2541 (by decide +kernel) (by decide +kernel)
theorem tT_X12_laysBest : mm_T yX12_laysBest cX12_laysBest 3 none 2 := ⟨wd_2541, wd_170, by decide +kernel, by decide +kernel, by decide +kernel, by decide +kernel⟩
theorem wd_2538 : Cond.methodLink RX12 450 yX12_laysBest ∈ lw_good := mm_wd 2538 (by decide +kernel) (by decide +kernel)
theorem wd_2540 : Cond.instanceMethod yX12_laysBest ∈ lw_good := mm_wd 2540 (by decide +kernel) (by decide +kernel)
theorem wd_116 : Cond.selects RX12 yX12_laysBest yX12_laysBest ∈ lw_good := mm_wd 116 (by decide +kernel) (by decide +kernel)
def F_X12_best_47 (s0 : Int32) (h : MH) : Option (Int32 × MH) := some (s0, h)
set_option maxRecDepth 20000 in
set_option maxHeartbeats 4000000 in
theorem w_X12_best_47 {d : Nat} {V : Nat → List (Nat × Value) → List Value → MH → Prop} {r : Int32} {hz : MH} (hd : 70 ≤ d) (C : mm_C d yX12_best cX12_best 2 (some .int) (.inr (some (.int r))) hz V) (s0 : Int32) (h : MH) (hK : F_X12_best_47 s0 h = some (r, hz)) : V 47 [] [.int s0] h := by
  unfold F_X12_best_47 at hK
  cases hK
  exact mm_iret C (pc := 47) rfl dX12_best_47 rfl rfl
def F_X12_best (a0 : Option Nat) (a1 : Int32) (h : MH) : Option (Int32 × MH) := (pI h a0 12 4 (0 : Int32)).bind fun h2 => mm_b2 (F_X12_within (a1.toInt64) (0 : Int64) (1 : Int64) h2) fun v9 h9 => if v9 = 0 then (mm_b2 (cV h9 a0 12 (F_X12_fails a0 (1 : Int32) h9)) fun v17 h17 => some (v17, h17)) else ((gR h9 a0 12 0).bind fun v23 => (aI h9 v23 0 (2 : Int32)).bind fun v27 => (cV h9 a0 12 (F_X12_laysBest a0 v27 (1 : Int32) h9)).bind fun h29 => if a1 = 0 then ((gI h29 a0 12 28).bind fun v37 => F_X12_best_47 v37 h29) else ((gI h29 a0 12 29).bind fun v44 => F_X12_best_47 v44 h29))
set_option maxRecDepth 20000 in
set_option maxHeartbeats 4000000 in
theorem S_X12_best {d : Nat} (hd : 70 ≤ d) {a0 : Option Nat} {a1 : Int32} {h : MH} {r : Int32} {hz : MH} (hK : F_X12_best a0 a1 h = some (r, hz)) : mm_M yX12_best cX12_best 2 (some .int) d [va_rf a0, .int a1] h (.inr (some (.int r))) hz := by
  refine mm_ofV (by decide +kernel) (by simp [lg_sl, mm_crf, mm_cti, mm_ctl]) (fun V C => ?_)
  rw [show lv_args 0 [va_rf a0, .int a1] = [(0, va_rf a0), (1, .int a1)] by simp [lv_args, mm_crf, mm_cti, mm_ctl]]
  unfold F_X12_best at hK
  refine mm_aload_n C (pc := 0) 0 dX12_best_0 rfl ?_
  refine mm_iconst C (pc := 1) (v := (0 : Int32)) dX12_best_1 (by decide) ?_
  replace hK := mm_bd hK; obtain ⟨h2, e2, hK⟩ := hK
  refine mm_puti C (pc := 2) (k := 4) false (fun z => by cases z) inGX12 tyX12 tyX12_ok nmX12 rfl (by decide) wd_2003 rfl rfl dX12_best_2 e2 ?_
  refine mm_iload_n C (pc := 5) 1 dX12_best_5 rfl ?_
  refine mm_i2l C (pc := 6) dX12_best_6 ?_
  refine mm_lconst C (pc := 7) (v := (0 : Int64)) dX12_best_7 (by decide) ?_
  refine mm_lconst C (pc := 8) (v := (1 : Int64)) dX12_best_8 (by decide) ?_
  replace hK := mm_b2s hK; obtain ⟨v9, h9, e9, hK⟩ := hK
  refine mm_callS C (pc := 9) (d1 := 1) (As := [.long (a1.toInt64), .long (0 : Int64), .long (1 : Int64)]) (st := []) (vk := (some (.int v9))) ((S_X12_within (by omega)) e9) tT_X12_within wd_2157 wd_2158 (by omega) (by decide) rfl (by simp [mm_crf, mm_cti, mm_ctl]) rfl dX12_best_9 ?_
  show V _ _ (.int v9 :: _) _
  refine mm_if_ne C (pc := 12) (tgt := 21) dX12_best_12 (by decide) (fun hc => ?_) (fun hc => ?_)
  · replace hK := mm_in hc hK
    refine mm_aload_n C (pc := 21) 0 dX12_best_21 rfl ?_
    refine mm_aload_n C (pc := 22) 0 dX12_best_22 rfl ?_
    replace hK := mm_bd hK; obtain ⟨v23, e23, hK⟩ := hK
    refine mm_getr C (pc := 23) (k := 0) inGX12 rfl (by decide) wd_1999 dX12_best_23 e23 ?_
    refine mm_iconst C (pc := 26) (v := (2 : Int32)) dX12_best_26 (by decide) ?_
    replace hK := mm_bd hK; obtain ⟨v27, e27, hK⟩ := hK
    refine mm_iald C (pc := 27) dX12_best_27 e27 ?_
    refine mm_iconst C (pc := 28) (v := (1 : Int32)) dX12_best_28 (by decide) ?_
    replace hK := mm_bd hK; obtain ⟨h29, e29, hK⟩ := hK
    obtain ⟨o29, e29⟩ := cV_some e29
    refine mm_callV C (pc := 29) (d1 := 69) (As := [.int v27, .int (1 : Int32)]) (st := []) (vk := none) ((S_X12_laysBest (by omega)) e29) tT_X12_laysBest o29 (Or.inr ⟨_, rfl, rfl⟩) wd_2538 wd_2540 wd_116 (by omega) (by decide) rfl (by simp [mm_crf, mm_cti, mm_ctl]) rfl dX12_best_29 ?_
    show V _ _ [] _
    refine mm_iload_n C (pc := 32) 1 dX12_best_32 rfl ?_
    refine mm_if_ne C (pc := 33) (tgt := 43) dX12_best_33 (by decide) (fun hc => ?_) (fun hc => ?_)
    · replace hK := mm_in hc hK
      refine mm_aload_n C (pc := 43) 0 dX12_best_43 rfl ?_
      replace hK := mm_bd hK; obtain ⟨v44, e44, hK⟩ := hK
      refine mm_geti C (pc := 44) (k := 29) inGX12 rfl (by decide) wd_2028 dX12_best_44 e44 ?_
      refine mm_sub C [] rfl ?_
      exact w_X12_best_47 hd C _ _ hK
    · replace hK := mm_ip hc hK
      refine mm_aload_n C (pc := 36) 0 dX12_best_36 rfl ?_
      replace hK := mm_bd hK; obtain ⟨v37, e37, hK⟩ := hK
      refine mm_geti C (pc := 37) (k := 28) inGX12 rfl (by decide) wd_2027 dX12_best_37 e37 ?_
      refine mm_goto C (pc := 40) (tgt := 47) dX12_best_40 (by decide) ?_
      refine mm_sub C [] rfl ?_
      exact w_X12_best_47 hd C _ _ hK
  · replace hK := mm_ip hc hK
    refine mm_aload_n C (pc := 15) 0 dX12_best_15 rfl ?_
    refine mm_iconst C (pc := 16) (v := (1 : Int32)) dX12_best_16 (by decide) ?_
    replace hK := mm_b2s hK; obtain ⟨v17, h17, e17, hK⟩ := hK
    obtain ⟨o17, e17⟩ := cV_some e17
    refine mm_callV C (pc := 17) (d1 := 1) (As := [.int (1 : Int32)]) (st := []) (vk := (some (.int v17))) ((S_X12_fails (by omega)) e17) tT_X12_fails o17 (Or.inr ⟨_, rfl, rfl⟩) wd_2160 wd_2162 wd_61 (by omega) (by decide) rfl (by simp [mm_crf, mm_cti, mm_ctl]) rfl dX12_best_17 ?_
    show V _ _ (.int v17 :: _) _
    cases hK
    exact mm_iret C (pc := 20) rfl dX12_best_20 rfl rfl
def F_X12_bestBy (a0 : Option Nat) (a1 : Int32) (h : MH) : Option (Int32 × MH) := (pI h a0 12 4 (0 : Int32)).bind fun h2 => mm_b2 (F_X12_within (a1.toInt64) (0 : Int64) (3 : Int64) h2) fun v11 h11 => if v11 = 0 then (mm_b2 (cV h11 a0 12 (F_X12_fails a0 (1 : Int32) h11)) fun v19 h19 => some (v19, h19)) else ((cV h11 a0 12 (F_X12_laysBest a0 a1 (0 : Int32) h11)).bind fun h26 => (gI h26 a0 12 28).bind fun v30 => some (v30, h26))
set_option maxRecDepth 20000 in
set_option maxHeartbeats 4000000 in
theorem S_X12_bestBy {d : Nat} (hd : 70 ≤ d) {a0 : Option Nat} {a1 : Int32} {h : MH} {r : Int32} {hz : MH} (hK : F_X12_bestBy a0 a1 h = some (r, hz)) : mm_M yX12_bestBy cX12_bestBy 2 (some .int) d [va_rf a0, .int a1] h (.inr (some (.int r))) hz := by
  refine mm_ofV (by decide +kernel) (by simp [lg_sl, mm_crf, mm_cti, mm_ctl]) (fun V C => ?_)
  rw [show lv_args 0 [va_rf a0, .int a1] = [(0, va_rf a0), (1, .int a1)] by simp [lv_args, mm_crf, mm_cti, mm_ctl]]
  unfold F_X12_bestBy at hK
  refine mm_aload_n C (pc := 0) 0 dX12_bestBy_0 rfl ?_
  refine mm_iconst C (pc := 1) (v := (0 : Int32)) dX12_bestBy_1 (by decide) ?_
  replace hK := mm_bd hK; obtain ⟨h2, e2, hK⟩ := hK
  refine mm_puti C (pc := 2) (k := 4) false (fun z => by cases z) inGX12 tyX12 tyX12_ok nmX12 rfl (by decide) wd_2003 rfl rfl dX12_bestBy_2 e2 ?_
  refine mm_iload_n C (pc := 5) 1 dX12_bestBy_5 rfl ?_
  refine mm_i2l C (pc := 6) dX12_bestBy_6 ?_
  refine mm_lconst C (pc := 7) (v := (0 : Int64)) dX12_bestBy_7 (by decide) ?_
  refine mm_ldc2 C (pc := 8) (v := (3 : Int64)) dX12_bestBy_8 wd_2443 ?_
  replace hK := mm_b2s hK; obtain ⟨v11, h11, e11, hK⟩ := hK
  refine mm_callS C (pc := 11) (d1 := 1) (As := [.long (a1.toInt64), .long (0 : Int64), .long (3 : Int64)]) (st := []) (vk := (some (.int v11))) ((S_X12_within (by omega)) e11) tT_X12_within wd_2157 wd_2158 (by omega) (by decide) rfl (by simp [mm_crf, mm_cti, mm_ctl]) rfl dX12_bestBy_11 ?_
  show V _ _ (.int v11 :: _) _
  refine mm_if_ne C (pc := 14) (tgt := 23) dX12_bestBy_14 (by decide) (fun hc => ?_) (fun hc => ?_)
  · replace hK := mm_in hc hK
    refine mm_aload_n C (pc := 23) 0 dX12_bestBy_23 rfl ?_
    refine mm_iload_n C (pc := 24) 1 dX12_bestBy_24 rfl ?_
    refine mm_iconst C (pc := 25) (v := (0 : Int32)) dX12_bestBy_25 (by decide) ?_
    replace hK := mm_bd hK; obtain ⟨h26, e26, hK⟩ := hK
    obtain ⟨o26, e26⟩ := cV_some e26
    refine mm_callV C (pc := 26) (d1 := 69) (As := [.int a1, .int (0 : Int32)]) (st := []) (vk := none) ((S_X12_laysBest (by omega)) e26) tT_X12_laysBest o26 (Or.inr ⟨_, rfl, rfl⟩) wd_2538 wd_2540 wd_116 (by omega) (by decide) rfl (by simp [mm_crf, mm_cti, mm_ctl]) rfl dX12_bestBy_26 ?_
    show V _ _ [] _
    refine mm_aload_n C (pc := 29) 0 dX12_bestBy_29 rfl ?_
    replace hK := mm_bd hK; obtain ⟨v30, e30, hK⟩ := hK
    refine mm_geti C (pc := 30) (k := 28) inGX12 rfl (by decide) wd_2027 dX12_bestBy_30 e30 ?_
    cases hK
    exact mm_iret C (pc := 33) rfl dX12_bestBy_33 rfl rfl
  · replace hK := mm_ip hc hK
    refine mm_aload_n C (pc := 17) 0 dX12_bestBy_17 rfl ?_
    refine mm_iconst C (pc := 18) (v := (1 : Int32)) dX12_bestBy_18 (by decide) ?_
    replace hK := mm_b2s hK; obtain ⟨v19, h19, e19, hK⟩ := hK
    obtain ⟨o19, e19⟩ := cV_some e19
    refine mm_callV C (pc := 19) (d1 := 1) (As := [.int (1 : Int32)]) (st := []) (vk := (some (.int v19))) ((S_X12_fails (by omega)) e19) tT_X12_fails o19 (Or.inr ⟨_, rfl, rfl⟩) wd_2160 wd_2162 wd_61 (by omega) (by decide) rfl (by simp [mm_crf, mm_cti, mm_ctl]) rfl dX12_bestBy_19 ?_
    show V _ _ (.int v19 :: _) _
    cases hK
    exact mm_iret C (pc := 22) rfl dX12_bestBy_22 rfl rfl
def F_X12_reachesBoth_37 (s0 : Int32) (h : MH) : Option (Int32 × MH) := rZ s0 h
set_option maxRecDepth 20000 in
set_option maxHeartbeats 4000000 in
theorem w_X12_reachesBoth_37 {d : Nat} {V : Nat → List (Nat × Value) → List Value → MH → Prop} {r : Int32} {hz : MH} (hd : 2 ≤ d) (C : mm_C d yX12_reachesBoth cX12_reachesBoth 4 (some .boolean) (.inr (some (.int r))) hz V) (s0 : Int32) (h : MH) (hK : F_X12_reachesBoth_37 s0 h = some (r, hz)) : V 37 [] [.int s0] h := by
  unfold F_X12_reachesBoth_37 at hK
  replace hK := rZ_some hK; obtain ⟨hv37, hK⟩ := hK
  cases hK
  exact mm_zret C (pc := 37) rfl (mm_nrZ hv37) dX12_reachesBoth_37 rfl rfl
def F_X12_reachesBoth_36 (h : MH) : Option (Int32 × MH) := F_X12_reachesBoth_37 (0 : Int32) h
set_option maxRecDepth 20000 in
set_option maxHeartbeats 4000000 in
theorem w_X12_reachesBoth_36 {d : Nat} {V : Nat → List (Nat × Value) → List Value → MH → Prop} {r : Int32} {hz : MH} (hd : 2 ≤ d) (C : mm_C d yX12_reachesBoth cX12_reachesBoth 4 (some .boolean) (.inr (some (.int r))) hz V) (h : MH) (hK : F_X12_reachesBoth_36  h = some (r, hz)) : V 36 [] [] h := by
  unfold F_X12_reachesBoth_36 at hK
  refine mm_iconst C (pc := 36) (v := (0 : Int32)) dX12_reachesBoth_36 (by decide) ?_
  exact w_X12_reachesBoth_37 hd C _ _ hK
def F_X12_reachesBoth (a0 : Option Nat) (a1 : Int32) (a2 : Int32) (a3 : Int32) (h : MH) : Option (Int32 × MH) := (gR h a0 12 0).bind fun v1 => (aI h v1 0 ((48 : Int32) + a1)).bind fun v8 => mm_b2 (F_X12_has v8 a2 h) fun v10 h10 => if v10 = 0 then (F_X12_reachesBoth_36 h10) else ((gR h10 a0 12 0).bind fun v17 => (aI h10 v17 0 ((48 : Int32) + a1)).bind fun v24 => mm_b2 (F_X12_has v24 a3 h10) fun v26 h26 => if v26 = 0 then (F_X12_reachesBoth_36 h26) else (F_X12_reachesBoth_37 (1 : Int32) h26))
set_option maxRecDepth 20000 in
set_option maxHeartbeats 4000000 in
theorem S_X12_reachesBoth {d : Nat} (hd : 2 ≤ d) {a0 : Option Nat} {a1 : Int32} {a2 : Int32} {a3 : Int32} {h : MH} {r : Int32} {hz : MH} (hK : F_X12_reachesBoth a0 a1 a2 a3 h = some (r, hz)) : mm_M yX12_reachesBoth cX12_reachesBoth 4 (some .boolean) d [va_rf a0, .int a1, .int a2, .int a3] h (.inr (some (.int r))) hz := by
  refine mm_ofV (by decide +kernel) (by simp [lg_sl, mm_crf, mm_cti, mm_ctl]) (fun V C => ?_)
  rw [show lv_args 0 [va_rf a0, .int a1, .int a2, .int a3] = [(0, va_rf a0), (1, .int a1), (2, .int a2), (3, .int a3)] by simp [lv_args, mm_crf, mm_cti, mm_ctl]]
  unfold F_X12_reachesBoth at hK
  refine mm_aload_n C (pc := 0) 0 dX12_reachesBoth_0 rfl ?_
  replace hK := mm_bd hK; obtain ⟨v1, e1, hK⟩ := hK
  refine mm_getr C (pc := 1) (k := 0) inGX12 rfl (by decide) wd_1999 dX12_reachesBoth_1 e1 ?_
  refine mm_bipush C (pc := 4) (v := (48 : Int32)) dX12_reachesBoth_4 (by decide) ?_
  refine mm_iload_n C (pc := 6) 1 dX12_reachesBoth_6 rfl ?_
  refine mm_iadd C (pc := 7) dX12_reachesBoth_7 ?_
  replace hK := mm_bd hK; obtain ⟨v8, e8, hK⟩ := hK
  refine mm_iald C (pc := 8) dX12_reachesBoth_8 e8 ?_
  refine mm_iload_n C (pc := 9) 2 dX12_reachesBoth_9 rfl ?_
  replace hK := mm_b2s hK; obtain ⟨v10, h10, e10, hK⟩ := hK
  refine mm_callS C (pc := 10) (d1 := 1) (As := [.int v8, .int a2]) (st := []) (vk := (some (.int v10))) ((S_X12_has (by omega)) e10) tT_X12_has wd_2316 wd_2317 (by omega) (by decide) rfl (by simp [mm_crf, mm_cti, mm_ctl]) rfl dX12_reachesBoth_10 ?_
  show V _ _ (.int v10 :: _) _
  refine mm_if_eq C (pc := 13) (tgt := 36) dX12_reachesBoth_13 (by decide) (fun hc => ?_) (fun hc => ?_)
  · replace hK := mm_ip hc hK
    refine mm_sub C [] rfl ?_
    exact w_X12_reachesBoth_36 hd C _ hK
  · replace hK := mm_in hc hK
    refine mm_aload_n C (pc := 16) 0 dX12_reachesBoth_16 rfl ?_
    replace hK := mm_bd hK; obtain ⟨v17, e17, hK⟩ := hK
    refine mm_getr C (pc := 17) (k := 0) inGX12 rfl (by decide) wd_1999 dX12_reachesBoth_17 e17 ?_
    refine mm_bipush C (pc := 20) (v := (48 : Int32)) dX12_reachesBoth_20 (by decide) ?_
    refine mm_iload_n C (pc := 22) 1 dX12_reachesBoth_22 rfl ?_
    refine mm_iadd C (pc := 23) dX12_reachesBoth_23 ?_
    replace hK := mm_bd hK; obtain ⟨v24, e24, hK⟩ := hK
    refine mm_iald C (pc := 24) dX12_reachesBoth_24 e24 ?_
    refine mm_iload_n C (pc := 25) 3 dX12_reachesBoth_25 rfl ?_
    replace hK := mm_b2s hK; obtain ⟨v26, h26, e26, hK⟩ := hK
    refine mm_callS C (pc := 26) (d1 := 1) (As := [.int v24, .int a3]) (st := []) (vk := (some (.int v26))) ((S_X12_has (by omega)) e26) tT_X12_has wd_2316 wd_2317 (by omega) (by decide) rfl (by simp [mm_crf, mm_cti, mm_ctl]) rfl dX12_reachesBoth_26 ?_
    show V _ _ (.int v26 :: _) _
    refine mm_if_eq C (pc := 29) (tgt := 36) dX12_reachesBoth_29 (by decide) (fun hc => ?_) (fun hc => ?_)
    · replace hK := mm_ip hc hK
      refine mm_sub C [] rfl ?_
      exact w_X12_reachesBoth_36 hd C _ hK
    · replace hK := mm_in hc hK
      refine mm_iconst C (pc := 32) (v := (1 : Int32)) dX12_reachesBoth_32 (by decide) ?_
      refine mm_goto C (pc := 33) (tgt := 37) dX12_reachesBoth_33 (by decide) ?_
      refine mm_sub C [] rfl ?_
      exact w_X12_reachesBoth_37 hd C _ _ hK
theorem wd_2573 : Cond.code yX12_reachesBoth cX12_reachesBoth 4 (some .boolean) ∈ lw_good := mm_wd 2573 (by decide +kernel) (by decide +kernel)
theorem tT_X12_reachesBoth : mm_T yX12_reachesBoth cX12_reachesBoth 4 (some .boolean) 3 := ⟨wd_2573, wd_170, by decide +kernel, by decide +kernel, by decide +kernel, by decide +kernel⟩
theorem wd_2570 : Cond.methodLink RX12 454 yX12_reachesBoth ∈ lw_good := mm_wd 2570 (by decide +kernel) (by decide +kernel)
theorem wd_2572 : Cond.instanceMethod yX12_reachesBoth ∈ lw_good := mm_wd 2572 (by decide +kernel) (by decide +kernel)
theorem wd_122 : Cond.selects RX12 yX12_reachesBoth yX12_reachesBoth ∈ lw_good := mm_wd 122 (by decide +kernel) (by decide +kernel)
def F_X12_isEnough_66 (k2 : Option Nat → Int32 → Int32 → MH → Option (Int32 × MH)) (k14 : Option Nat → Int32 → Int32 → Int32 → MH → Option (Int32 × MH)) (k25 : Option Nat → Int32 → Int32 → Int32 → Int32 → Int32 → MH → Option (Int32 × MH)) (l0 : Option Nat) (l1 : Int32) (l2 : Int32) (l3 : Int32) (l5 : Int32) (s0 : Int32) (h : MH) : Option (Int32 × MH) := k25 l0 l1 l2 l3 s0 (l5 + (1 : Int32)) h
set_option maxRecDepth 20000 in
set_option maxHeartbeats 4000000 in
theorem w_X12_isEnough_66 {d : Nat} {V : Nat → List (Nat × Value) → List Value → MH → Prop} {r : Int32} {hz : MH} {k2 : Option Nat → Int32 → Int32 → MH → Option (Int32 × MH)} {k14 : Option Nat → Int32 → Int32 → Int32 → MH → Option (Int32 × MH)} {k25 : Option Nat → Int32 → Int32 → Int32 → Int32 → Int32 → MH → Option (Int32 × MH)} (hd : 3 ≤ d) (C : mm_C d yX12_isEnough cX12_isEnough 6 (some .boolean) (.inr (some (.int r))) hz V) (q2 : ∀ (x0 : Option Nat) (x1 : Int32) (x2 : Int32) (h : MH), k2 x0 x1 x2 h = some (r, hz) → V 2 [(0, va_rf x0), (1, .int x1), (2, .int x2)] [] h) (q14 : ∀ (x0 : Option Nat) (x1 : Int32) (x2 : Int32) (x3 : Int32) (h : MH), k14 x0 x1 x2 x3 h = some (r, hz) → V 14 [(0, va_rf x0), (1, .int x1), (2, .int x2), (3, .int x3)] [] h) (q25 : ∀ (x0 : Option Nat) (x1 : Int32) (x2 : Int32) (x3 : Int32) (x4 : Int32) (x5 : Int32) (h : MH), k25 x0 x1 x2 x3 x4 x5 h = some (r, hz) → V 25 [(0, va_rf x0), (1, .int x1), (2, .int x2), (3, .int x3), (4, .int x4), (5, .int x5)] [] h) (l0 : Option Nat) (l1 : Int32) (l2 : Int32) (l3 : Int32) (l5 : Int32) (s0 : Int32) (h : MH) (hK : F_X12_isEnough_66 k2 k14 k25 l0 l1 l2 l3 l5 s0 h = some (r, hz)) : V 66 [(0, va_rf l0), (1, .int l1), (2, .int l2), (3, .int l3), (5, .int l5)] [.int s0] h := by
  unfold F_X12_isEnough_66 at hK
  refine mm_istore C (pc := 66) (i := 4) (lv' := [(4, .int s0), (0, va_rf l0), (1, .int l1), (2, .int l2), (3, .int l3), (5, .int l5)]) dX12_isEnough_66 (by decide) rfl ?_
  refine mm_iinc C (pc := 68) (v := (l5 + (1 : Int32))) (lv' := [(5, .int (l5 + (1 : Int32))), (4, .int s0), (0, va_rf l0), (1, .int l1), (2, .int l2), (3, .int l3)]) 5 dX12_isEnough_68 rfl rfl (by decide) rfl ?_
  refine mm_goto C (pc := 71) (tgt := 25) dX12_isEnough_71 (by decide) ?_
  refine mm_sub C [2, 3, 4, 5, 1, 0] rfl ?_
  exact q25 _ _ _ _ _ _ _ hK
def F_X12_isEnough_61 (k2 : Option Nat → Int32 → Int32 → MH → Option (Int32 × MH)) (k14 : Option Nat → Int32 → Int32 → Int32 → MH → Option (Int32 × MH)) (k25 : Option Nat → Int32 → Int32 → Int32 → Int32 → Int32 → MH → Option (Int32 × MH)) (l0 : Option Nat) (l1 : Int32) (l2 : Int32) (l3 : Int32) (l5 : Int32) (h : MH) : Option (Int32 × MH) := F_X12_isEnough_66 k2 k14 k25 l0 l1 l2 l3 l5 (1 : Int32) h
set_option maxRecDepth 20000 in
set_option maxHeartbeats 4000000 in
theorem w_X12_isEnough_61 {d : Nat} {V : Nat → List (Nat × Value) → List Value → MH → Prop} {r : Int32} {hz : MH} {k2 : Option Nat → Int32 → Int32 → MH → Option (Int32 × MH)} {k14 : Option Nat → Int32 → Int32 → Int32 → MH → Option (Int32 × MH)} {k25 : Option Nat → Int32 → Int32 → Int32 → Int32 → Int32 → MH → Option (Int32 × MH)} (hd : 3 ≤ d) (C : mm_C d yX12_isEnough cX12_isEnough 6 (some .boolean) (.inr (some (.int r))) hz V) (q2 : ∀ (x0 : Option Nat) (x1 : Int32) (x2 : Int32) (h : MH), k2 x0 x1 x2 h = some (r, hz) → V 2 [(0, va_rf x0), (1, .int x1), (2, .int x2)] [] h) (q14 : ∀ (x0 : Option Nat) (x1 : Int32) (x2 : Int32) (x3 : Int32) (h : MH), k14 x0 x1 x2 x3 h = some (r, hz) → V 14 [(0, va_rf x0), (1, .int x1), (2, .int x2), (3, .int x3)] [] h) (q25 : ∀ (x0 : Option Nat) (x1 : Int32) (x2 : Int32) (x3 : Int32) (x4 : Int32) (x5 : Int32) (h : MH), k25 x0 x1 x2 x3 x4 x5 h = some (r, hz) → V 25 [(0, va_rf x0), (1, .int x1), (2, .int x2), (3, .int x3), (4, .int x4), (5, .int x5)] [] h) (l0 : Option Nat) (l1 : Int32) (l2 : Int32) (l3 : Int32) (l5 : Int32) (h : MH) (hK : F_X12_isEnough_61 k2 k14 k25 l0 l1 l2 l3 l5 h = some (r, hz)) : V 61 [(0, va_rf l0), (1, .int l1), (2, .int l2), (3, .int l3), (5, .int l5)] [] h := by
  unfold F_X12_isEnough_61 at hK
  refine mm_iconst C (pc := 61) (v := (1 : Int32)) dX12_isEnough_61 (by decide) ?_
  refine mm_goto C (pc := 62) (tgt := 66) dX12_isEnough_62 (by decide) ?_
  exact w_X12_isEnough_66 hd C (fun z0 z1 z2 z3 hK => q2 z0 z1 z2 z3 hK) (fun z0 z1 z2 z3 z4 hK => q14 z0 z1 z2 z3 z4 hK) (fun z0 z1 z2 z3 z4 z5 z6 hK => q25 z0 z1 z2 z3 z4 z5 z6 hK) _ _ _ _ _ _ _ hK
def F_X12_isEnough_65 (k2 : Option Nat → Int32 → Int32 → MH → Option (Int32 × MH)) (k14 : Option Nat → Int32 → Int32 → Int32 → MH → Option (Int32 × MH)) (k25 : Option Nat → Int32 → Int32 → Int32 → Int32 → Int32 → MH → Option (Int32 × MH)) (l0 : Option Nat) (l1 : Int32) (l2 : Int32) (l3 : Int32) (l5 : Int32) (h : MH) : Option (Int32 × MH) := F_X12_isEnough_66 k2 k14 k25 l0 l1 l2 l3 l5 (0 : Int32) h
set_option maxRecDepth 20000 in
set_option maxHeartbeats 4000000 in
theorem w_X12_isEnough_65 {d : Nat} {V : Nat → List (Nat × Value) → List Value → MH → Prop} {r : Int32} {hz : MH} {k2 : Option Nat → Int32 → Int32 → MH → Option (Int32 × MH)} {k14 : Option Nat → Int32 → Int32 → Int32 → MH → Option (Int32 × MH)} {k25 : Option Nat → Int32 → Int32 → Int32 → Int32 → Int32 → MH → Option (Int32 × MH)} (hd : 3 ≤ d) (C : mm_C d yX12_isEnough cX12_isEnough 6 (some .boolean) (.inr (some (.int r))) hz V) (q2 : ∀ (x0 : Option Nat) (x1 : Int32) (x2 : Int32) (h : MH), k2 x0 x1 x2 h = some (r, hz) → V 2 [(0, va_rf x0), (1, .int x1), (2, .int x2)] [] h) (q14 : ∀ (x0 : Option Nat) (x1 : Int32) (x2 : Int32) (x3 : Int32) (h : MH), k14 x0 x1 x2 x3 h = some (r, hz) → V 14 [(0, va_rf x0), (1, .int x1), (2, .int x2), (3, .int x3)] [] h) (q25 : ∀ (x0 : Option Nat) (x1 : Int32) (x2 : Int32) (x3 : Int32) (x4 : Int32) (x5 : Int32) (h : MH), k25 x0 x1 x2 x3 x4 x5 h = some (r, hz) → V 25 [(0, va_rf x0), (1, .int x1), (2, .int x2), (3, .int x3), (4, .int x4), (5, .int x5)] [] h) (l0 : Option Nat) (l1 : Int32) (l2 : Int32) (l3 : Int32) (l5 : Int32) (h : MH) (hK : F_X12_isEnough_65 k2 k14 k25 l0 l1 l2 l3 l5 h = some (r, hz)) : V 65 [(0, va_rf l0), (1, .int l1), (2, .int l2), (3, .int l3), (5, .int l5)] [] h := by
  unfold F_X12_isEnough_65 at hK
  refine mm_iconst C (pc := 65) (v := (0 : Int32)) dX12_isEnough_65 (by decide) ?_
  exact w_X12_isEnough_66 hd C (fun z0 z1 z2 z3 hK => q2 z0 z1 z2 z3 hK) (fun z0 z1 z2 z3 z4 hK => q14 z0 z1 z2 z3 z4 hK) (fun z0 z1 z2 z3 z4 z5 z6 hK => q25 z0 z1 z2 z3 z4 z5 z6 hK) _ _ _ _ _ _ _ hK
def F_X12_isEnough_25 (k2 : Option Nat → Int32 → Int32 → MH → Option (Int32 × MH)) (k14 : Option Nat → Int32 → Int32 → Int32 → MH → Option (Int32 × MH)) : Nat → Option Nat → Int32 → Int32 → Int32 → Int32 → Int32 → MH → Option (Int32 × MH)
  | 0 => fun _ _ _ _ _ _ _ => none
  | n + 1 => fun l0 l1 l2 l3 l4 l5 h => (gR h l0 12 0).bind fun v28 => (aI h v28 0 (2 : Int32)).bind fun v32 => if v32 ≤ l5 then (if l4 = 0 then (rZ (0 : Int32) h) else (k14 l0 l1 l2 (l3 + (1 : Int32)) h)) else (if l4 = 0 then (mm_b2 (F_X12_has l1 l5 h) fun v44 h44 => if v44 = 0 then (F_X12_isEnough_65 k2 k14 (F_X12_isEnough_25 k2 k14 n) l0 l1 l2 l3 l5 h44) else (mm_b2 (cV h44 l0 12 (F_X12_reachesBoth l0 l5 l2 l3 h44)) fun v55 h55 => if v55 = 0 then (F_X12_isEnough_65 k2 k14 (F_X12_isEnough_25 k2 k14 n) l0 l1 l2 l3 l5 h55) else (F_X12_isEnough_61 k2 k14 (F_X12_isEnough_25 k2 k14 n) l0 l1 l2 l3 l5 h55))) else (F_X12_isEnough_61 k2 k14 (F_X12_isEnough_25 k2 k14 n) l0 l1 l2 l3 l5 h))
set_option maxRecDepth 20000 in
set_option maxHeartbeats 4000000 in
theorem w_X12_isEnough_25 {d : Nat} {V : Nat → List (Nat × Value) → List Value → MH → Prop} {r : Int32} {hz : MH} {k2 : Option Nat → Int32 → Int32 → MH → Option (Int32 × MH)} {k14 : Option Nat → Int32 → Int32 → Int32 → MH → Option (Int32 × MH)} (hd : 3 ≤ d) (C : mm_C d yX12_isEnough cX12_isEnough 6 (some .boolean) (.inr (some (.int r))) hz V) (q2 : ∀ (x0 : Option Nat) (x1 : Int32) (x2 : Int32) (h : MH), k2 x0 x1 x2 h = some (r, hz) → V 2 [(0, va_rf x0), (1, .int x1), (2, .int x2)] [] h) (q14 : ∀ (x0 : Option Nat) (x1 : Int32) (x2 : Int32) (x3 : Int32) (h : MH), k14 x0 x1 x2 x3 h = some (r, hz) → V 14 [(0, va_rf x0), (1, .int x1), (2, .int x2), (3, .int x3)] [] h) : ∀ (n : Nat) (l0 : Option Nat) (l1 : Int32) (l2 : Int32) (l3 : Int32) (l4 : Int32) (l5 : Int32) (h : MH), F_X12_isEnough_25 k2 k14 n l0 l1 l2 l3 l4 l5 h = some (r, hz) → V 25 [(0, va_rf l0), (1, .int l1), (2, .int l2), (3, .int l3), (4, .int l4), (5, .int l5)] [] h := by
  intro n
  induction n with
  | zero => intro l0 l1 l2 l3 l4 l5 h hK; cases hK
  | succ n ih =>
    intro l0 l1 l2 l3 l4 l5 h hK
    replace hK : ((gR h l0 12 0).bind fun v28 => (aI h v28 0 (2 : Int32)).bind fun v32 => if v32 ≤ l5 then (if l4 = 0 then (rZ (0 : Int32) h) else (k14 l0 l1 l2 (l3 + (1 : Int32)) h)) else (if l4 = 0 then (mm_b2 (F_X12_has l1 l5 h) fun v44 h44 => if v44 = 0 then (F_X12_isEnough_65 k2 k14 (F_X12_isEnough_25 k2 k14 n) l0 l1 l2 l3 l5 h44) else (mm_b2 (cV h44 l0 12 (F_X12_reachesBoth l0 l5 l2 l3 h44)) fun v55 h55 => if v55 = 0 then (F_X12_isEnough_65 k2 k14 (F_X12_isEnough_25 k2 k14 n) l0 l1 l2 l3 l5 h55) else (F_X12_isEnough_61 k2 k14 (F_X12_isEnough_25 k2 k14 n) l0 l1 l2 l3 l5 h55))) else (F_X12_isEnough_61 k2 k14 (F_X12_isEnough_25 k2 k14 n) l0 l1 l2 l3 l5 h))) = some (r, hz) := hK
    refine mm_iload C (pc := 25) 5 dX12_isEnough_25 rfl ?_
    refine mm_aload_n C (pc := 27) 0 dX12_isEnough_27 rfl ?_
    replace hK := mm_bd hK; obtain ⟨v28, e28, hK⟩ := hK
    refine mm_getr C (pc := 28) (k := 0) inGX12 rfl (by decide) wd_1999 dX12_isEnough_28 e28 ?_
    refine mm_iconst C (pc := 31) (v := (2 : Int32)) dX12_isEnough_31 (by decide) ?_
    replace hK := mm_bd hK; obtain ⟨v32, e32, hK⟩ := hK
    refine mm_iald C (pc := 32) dX12_isEnough_32 e32 ?_
    refine mm_icmp_ge C (pc := 33) (tgt := 74) dX12_isEnough_33 (by decide) (fun hc => ?_) (fun hc => ?_)
    · replace hK := mm_ip hc hK
      refine mm_iload C (pc := 74) 4 dX12_isEnough_74 rfl ?_
      refine mm_if_ne C (pc := 76) (tgt := 81) dX12_isEnough_76 (by decide) (fun hc => ?_) (fun hc => ?_)
      · replace hK := mm_in hc hK
        refine mm_iinc C (pc := 81) (v := (l3 + (1 : Int32))) (lv' := [(3, .int (l3 + (1 : Int32))), (0, va_rf l0), (1, .int l1), (2, .int l2), (4, .int l4), (5, .int l5)]) 3 dX12_isEnough_81 rfl rfl (by decide) rfl ?_
        refine mm_goto C (pc := 84) (tgt := 14) dX12_isEnough_84 (by decide) ?_
        refine mm_sub C [1, 2, 3, 0] rfl ?_
        exact q14 _ _ _ _ _ hK
      · replace hK := mm_ip hc hK
        refine mm_iconst C (pc := 79) (v := (0 : Int32)) dX12_isEnough_79 (by decide) ?_
        replace hK := rZ_some hK; obtain ⟨hv80, hK⟩ := hK
        cases hK
        exact mm_zret C (pc := 80) rfl (mm_nrZ hv80) dX12_isEnough_80 rfl rfl
    · replace hK := mm_in hc hK
      refine mm_iload C (pc := 36) 4 dX12_isEnough_36 rfl ?_
      refine mm_if_ne C (pc := 38) (tgt := 61) dX12_isEnough_38 (by decide) (fun hc => ?_) (fun hc => ?_)
      · replace hK := mm_in hc hK
        refine mm_sub C [0, 1, 2, 3, 5] rfl ?_
        exact w_X12_isEnough_61 hd C (fun z0 z1 z2 z3 hK => q2 z0 z1 z2 z3 hK) (fun z0 z1 z2 z3 z4 hK => q14 z0 z1 z2 z3 z4 hK) (fun z0 z1 z2 z3 z4 z5 z6 hK => ih z0 z1 z2 z3 z4 z5 z6 hK) _ _ _ _ _ _ hK
      · replace hK := mm_ip hc hK
        refine mm_iload_n C (pc := 41) 1 dX12_isEnough_41 rfl ?_
        refine mm_iload C (pc := 42) 5 dX12_isEnough_42 rfl ?_
        replace hK := mm_b2s hK; obtain ⟨v44, h44, e44, hK⟩ := hK
        refine mm_callS C (pc := 44) (d1 := 1) (As := [.int l1, .int l5]) (st := []) (vk := (some (.int v44))) ((S_X12_has (by omega)) e44) tT_X12_has wd_2316 wd_2317 (by omega) (by decide) rfl (by simp [mm_crf, mm_cti, mm_ctl]) rfl dX12_isEnough_44 ?_
        show V _ _ (.int v44 :: _) _
        refine mm_if_eq C (pc := 47) (tgt := 65) dX12_isEnough_47 (by decide) (fun hc => ?_) (fun hc => ?_)
        · replace hK := mm_ip hc hK
          refine mm_sub C [0, 1, 2, 3, 5] rfl ?_
          exact w_X12_isEnough_65 hd C (fun z0 z1 z2 z3 hK => q2 z0 z1 z2 z3 hK) (fun z0 z1 z2 z3 z4 hK => q14 z0 z1 z2 z3 z4 hK) (fun z0 z1 z2 z3 z4 z5 z6 hK => ih z0 z1 z2 z3 z4 z5 z6 hK) _ _ _ _ _ _ hK
        · replace hK := mm_in hc hK
          refine mm_aload_n C (pc := 50) 0 dX12_isEnough_50 rfl ?_
          refine mm_iload C (pc := 51) 5 dX12_isEnough_51 rfl ?_
          refine mm_iload_n C (pc := 53) 2 dX12_isEnough_53 rfl ?_
          refine mm_iload_n C (pc := 54) 3 dX12_isEnough_54 rfl ?_
          replace hK := mm_b2s hK; obtain ⟨v55, h55, e55, hK⟩ := hK
          obtain ⟨o55, e55⟩ := cV_some e55
          refine mm_callV C (pc := 55) (d1 := 2) (As := [.int l5, .int l2, .int l3]) (st := []) (vk := (some (.int v55))) ((S_X12_reachesBoth (by omega)) e55) tT_X12_reachesBoth o55 (Or.inr ⟨_, rfl, rfl⟩) wd_2570 wd_2572 wd_122 (by omega) (by decide) rfl (by simp [mm_crf, mm_cti, mm_ctl]) rfl dX12_isEnough_55 ?_
          show V _ _ (.int v55 :: _) _
          refine mm_if_eq C (pc := 58) (tgt := 65) dX12_isEnough_58 (by decide) (fun hc => ?_) (fun hc => ?_)
          · replace hK := mm_ip hc hK
            refine mm_sub C [0, 1, 2, 3, 5] rfl ?_
            exact w_X12_isEnough_65 hd C (fun z0 z1 z2 z3 hK => q2 z0 z1 z2 z3 hK) (fun z0 z1 z2 z3 z4 hK => q14 z0 z1 z2 z3 z4 hK) (fun z0 z1 z2 z3 z4 z5 z6 hK => ih z0 z1 z2 z3 z4 z5 z6 hK) _ _ _ _ _ _ hK
          · replace hK := mm_in hc hK
            refine mm_sub C [0, 1, 2, 3, 5] rfl ?_
            exact w_X12_isEnough_61 hd C (fun z0 z1 z2 z3 hK => q2 z0 z1 z2 z3 hK) (fun z0 z1 z2 z3 z4 hK => q14 z0 z1 z2 z3 z4 hK) (fun z0 z1 z2 z3 z4 z5 z6 hK => ih z0 z1 z2 z3 z4 z5 z6 hK) _ _ _ _ _ _ hK
def F_X12_isEnough_14 (k2 : Option Nat → Int32 → Int32 → MH → Option (Int32 × MH)) : Nat → Option Nat → Int32 → Int32 → Int32 → MH → Option (Int32 × MH)
  | 0 => fun _ _ _ _ _ => none
  | n + 1 => fun l0 l1 l2 l3 h => if l2 ≤ l3 then (k2 l0 l1 (l2 + (1 : Int32)) h) else (F_X12_isEnough_25 k2 (F_X12_isEnough_14 k2 n) mm_N l0 l1 l2 l3 (0 : Int32) (0 : Int32) h)
set_option maxRecDepth 20000 in
set_option maxHeartbeats 4000000 in
theorem w_X12_isEnough_14 {d : Nat} {V : Nat → List (Nat × Value) → List Value → MH → Prop} {r : Int32} {hz : MH} {k2 : Option Nat → Int32 → Int32 → MH → Option (Int32 × MH)} (hd : 3 ≤ d) (C : mm_C d yX12_isEnough cX12_isEnough 6 (some .boolean) (.inr (some (.int r))) hz V) (q2 : ∀ (x0 : Option Nat) (x1 : Int32) (x2 : Int32) (h : MH), k2 x0 x1 x2 h = some (r, hz) → V 2 [(0, va_rf x0), (1, .int x1), (2, .int x2)] [] h) : ∀ (n : Nat) (l0 : Option Nat) (l1 : Int32) (l2 : Int32) (l3 : Int32) (h : MH), F_X12_isEnough_14 k2 n l0 l1 l2 l3 h = some (r, hz) → V 14 [(0, va_rf l0), (1, .int l1), (2, .int l2), (3, .int l3)] [] h := by
  intro n
  induction n with
  | zero => intro l0 l1 l2 l3 h hK; cases hK
  | succ n ih =>
    intro l0 l1 l2 l3 h hK
    replace hK : (if l2 ≤ l3 then (k2 l0 l1 (l2 + (1 : Int32)) h) else (F_X12_isEnough_25 k2 (F_X12_isEnough_14 k2 n) mm_N l0 l1 l2 l3 (0 : Int32) (0 : Int32) h)) = some (r, hz) := hK
    refine mm_iload_n C (pc := 14) 3 dX12_isEnough_14 rfl ?_
    refine mm_iload_n C (pc := 15) 2 dX12_isEnough_15 rfl ?_
    refine mm_icmp_ge C (pc := 16) (tgt := 87) dX12_isEnough_16 (by decide) (fun hc => ?_) (fun hc => ?_)
    · replace hK := mm_ip hc hK
      refine mm_iinc C (pc := 87) (v := (l2 + (1 : Int32))) (lv' := [(2, .int (l2 + (1 : Int32))), (0, va_rf l0), (1, .int l1), (3, .int l3)]) 2 dX12_isEnough_87 rfl rfl (by decide) rfl ?_
      refine mm_goto C (pc := 90) (tgt := 2) dX12_isEnough_90 (by decide) ?_
      refine mm_sub C [1, 2, 0] rfl ?_
      exact q2 _ _ _ _ hK
    · replace hK := mm_in hc hK
      refine mm_iconst C (pc := 19) (v := (0 : Int32)) dX12_isEnough_19 (by decide) ?_
      refine mm_istore C (pc := 20) (i := 4) (lv' := [(4, .int (0 : Int32)), (0, va_rf l0), (1, .int l1), (2, .int l2), (3, .int l3)]) dX12_isEnough_20 (by decide) rfl ?_
      refine mm_iconst C (pc := 22) (v := (0 : Int32)) dX12_isEnough_22 (by decide) ?_
      refine mm_istore C (pc := 23) (i := 5) (lv' := [(5, .int (0 : Int32)), (4, .int (0 : Int32)), (0, va_rf l0), (1, .int l1), (2, .int l2), (3, .int l3)]) dX12_isEnough_23 (by decide) rfl ?_
      refine mm_sub C [2, 3, 4, 5, 1, 0] rfl ?_
      exact w_X12_isEnough_25 hd C (fun z0 z1 z2 z3 hK => q2 z0 z1 z2 z3 hK) (fun z0 z1 z2 z3 z4 hK => ih z0 z1 z2 z3 z4 hK) _ _ _ _ _ _ _ _ hK
def F_X12_isEnough_2 : Nat → Option Nat → Int32 → Int32 → MH → Option (Int32 × MH)
  | 0 => fun _ _ _ _ => none
  | n + 1 => fun l0 l1 l2 h => (gR h l0 12 0).bind fun v4 => (aI h v4 0 (1 : Int32)).bind fun v8 => if v8 ≤ l2 then (rZ (1 : Int32) h) else (F_X12_isEnough_14 (F_X12_isEnough_2 n) mm_N l0 l1 l2 (0 : Int32) h)
set_option maxRecDepth 20000 in
set_option maxHeartbeats 4000000 in
theorem w_X12_isEnough_2 {d : Nat} {V : Nat → List (Nat × Value) → List Value → MH → Prop} {r : Int32} {hz : MH} (hd : 3 ≤ d) (C : mm_C d yX12_isEnough cX12_isEnough 6 (some .boolean) (.inr (some (.int r))) hz V) : ∀ (n : Nat) (l0 : Option Nat) (l1 : Int32) (l2 : Int32) (h : MH), F_X12_isEnough_2 n l0 l1 l2 h = some (r, hz) → V 2 [(0, va_rf l0), (1, .int l1), (2, .int l2)] [] h := by
  intro n
  induction n with
  | zero => intro l0 l1 l2 h hK; cases hK
  | succ n ih =>
    intro l0 l1 l2 h hK
    replace hK : ((gR h l0 12 0).bind fun v4 => (aI h v4 0 (1 : Int32)).bind fun v8 => if v8 ≤ l2 then (rZ (1 : Int32) h) else (F_X12_isEnough_14 (F_X12_isEnough_2 n) mm_N l0 l1 l2 (0 : Int32) h)) = some (r, hz) := hK
    refine mm_iload_n C (pc := 2) 2 dX12_isEnough_2 rfl ?_
    refine mm_aload_n C (pc := 3) 0 dX12_isEnough_3 rfl ?_
    replace hK := mm_bd hK; obtain ⟨v4, e4, hK⟩ := hK
    refine mm_getr C (pc := 4) (k := 0) inGX12 rfl (by decide) wd_1999 dX12_isEnough_4 e4 ?_
    refine mm_iconst C (pc := 7) (v := (1 : Int32)) dX12_isEnough_7 (by decide) ?_
    replace hK := mm_bd hK; obtain ⟨v8, e8, hK⟩ := hK
    refine mm_iald C (pc := 8) dX12_isEnough_8 e8 ?_
    refine mm_icmp_ge C (pc := 9) (tgt := 93) dX12_isEnough_9 (by decide) (fun hc => ?_) (fun hc => ?_)
    · replace hK := mm_ip hc hK
      refine mm_iconst C (pc := 93) (v := (1 : Int32)) dX12_isEnough_93 (by decide) ?_
      replace hK := rZ_some hK; obtain ⟨hv94, hK⟩ := hK
      cases hK
      exact mm_zret C (pc := 94) rfl (mm_nrZ hv94) dX12_isEnough_94 rfl rfl
    · replace hK := mm_in hc hK
      refine mm_iconst C (pc := 12) (v := (0 : Int32)) dX12_isEnough_12 (by decide) ?_
      refine mm_istore_n C (pc := 13) (i := 3) (lv' := [(3, .int (0 : Int32)), (0, va_rf l0), (1, .int l1), (2, .int l2)]) dX12_isEnough_13 rfl (by decide) rfl ?_
      refine mm_sub C [1, 2, 3, 0] rfl ?_
      exact w_X12_isEnough_14 hd C (fun z0 z1 z2 z3 hK => ih z0 z1 z2 z3 hK) _ _ _ _ _ _ hK
def F_X12_isEnough (a0 : Option Nat) (a1 : Int32) (h : MH) : Option (Int32 × MH) := F_X12_isEnough_2 mm_N a0 a1 (0 : Int32) h
set_option maxRecDepth 20000 in
set_option maxHeartbeats 4000000 in
theorem S_X12_isEnough {d : Nat} (hd : 3 ≤ d) {a0 : Option Nat} {a1 : Int32} {h : MH} {r : Int32} {hz : MH} (hK : F_X12_isEnough a0 a1 h = some (r, hz)) : mm_M yX12_isEnough cX12_isEnough 6 (some .boolean) d [va_rf a0, .int a1] h (.inr (some (.int r))) hz := by
  refine mm_ofV (by decide +kernel) (by simp [lg_sl, mm_crf, mm_cti, mm_ctl]) (fun V C => ?_)
  rw [show lv_args 0 [va_rf a0, .int a1] = [(0, va_rf a0), (1, .int a1)] by simp [lv_args, mm_crf, mm_cti, mm_ctl]]
  unfold F_X12_isEnough at hK
  refine mm_iconst C (pc := 0) (v := (0 : Int32)) dX12_isEnough_0 (by decide) ?_
  refine mm_istore_n C (pc := 1) (i := 2) (lv' := [(2, .int (0 : Int32)), (0, va_rf a0), (1, .int a1)]) dX12_isEnough_1 rfl (by decide) rfl ?_
  refine mm_sub C [1, 2, 0] rfl ?_
  exact w_X12_isEnough_2 hd C _ _ _ _ _ hK
theorem wd_2569 : Cond.code yX12_isEnough cX12_isEnough 6 (some .boolean) ∈ lw_good := mm_wd 2569 (by decide +kernel) (by decide +kernel)
theorem tT_X12_isEnough : mm_T yX12_isEnough cX12_isEnough 6 (some .boolean) 1 := ⟨wd_2569, wd_170, by decide +kernel, by decide +kernel, by decide +kernel, by decide +kernel⟩
theorem wd_2566 : Cond.methodLink RX12 457 yX12_isEnough ∈ lw_good := mm_wd 2566 (by decide +kernel) (by decide +kernel)
theorem wd_2568 : Cond.instanceMethod yX12_isEnough ∈ lw_good := mm_wd 2568 (by decide +kernel) (by decide +kernel)
theorem wd_121 : Cond.selects RX12 yX12_isEnough yX12_isEnough ∈ lw_good := mm_wd 121 (by decide +kernel) (by decide +kernel)
def F_X12_enough_47 (k9 : Option Nat → Int32 → Int32 → MH → Option (Int32 × MH)) (l0 : Option Nat) (l1 : Int32) (l2 : Int32) (h : MH) : Option (Int32 × MH) := k9 l0 l1 (l2 + (1 : Int32)) h
set_option maxRecDepth 20000 in
set_option maxHeartbeats 4000000 in
theorem w_X12_enough_47 {d : Nat} {V : Nat → List (Nat × Value) → List Value → MH → Prop} {r : Int32} {hz : MH} {k9 : Option Nat → Int32 → Int32 → MH → Option (Int32 × MH)} (hd : 4 ≤ d) (C : mm_C d yX12_enough cX12_enough 3 (some .int) (.inr (some (.int r))) hz V) (q9 : ∀ (x0 : Option Nat) (x1 : Int32) (x2 : Int32) (h : MH), k9 x0 x1 x2 h = some (r, hz) → V 9 [(0, va_rf x0), (1, .int x1), (2, .int x2)] [] h) (l0 : Option Nat) (l1 : Int32) (l2 : Int32) (h : MH) (hK : F_X12_enough_47 k9 l0 l1 l2 h = some (r, hz)) : V 47 [(0, va_rf l0), (1, .int l1), (2, .int l2)] [] h := by
  unfold F_X12_enough_47 at hK
  refine mm_iinc C (pc := 47) (v := (l2 + (1 : Int32))) (lv' := [(2, .int (l2 + (1 : Int32))), (0, va_rf l0), (1, .int l1)]) 2 dX12_enough_47 rfl rfl (by decide) rfl ?_
  refine mm_goto C (pc := 50) (tgt := 9) dX12_enough_50 (by decide) ?_
  refine mm_sub C [1, 2, 0] rfl ?_
  exact q9 _ _ _ _ hK
def F_X12_enough_42 (k9 : Option Nat → Int32 → Int32 → MH → Option (Int32 × MH)) (l0 : Option Nat) (l2 : Int32) (h : MH) : Option (Int32 × MH) := mm_b2 (F_X12_size l2 h) fun v43 h43 => F_X12_enough_47 k9 l0 v43 l2 h43
set_option maxRecDepth 20000 in
set_option maxHeartbeats 4000000 in
theorem w_X12_enough_42 {d : Nat} {V : Nat → List (Nat × Value) → List Value → MH → Prop} {r : Int32} {hz : MH} {k9 : Option Nat → Int32 → Int32 → MH → Option (Int32 × MH)} (hd : 4 ≤ d) (C : mm_C d yX12_enough cX12_enough 3 (some .int) (.inr (some (.int r))) hz V) (q9 : ∀ (x0 : Option Nat) (x1 : Int32) (x2 : Int32) (h : MH), k9 x0 x1 x2 h = some (r, hz) → V 9 [(0, va_rf x0), (1, .int x1), (2, .int x2)] [] h) (l0 : Option Nat) (l2 : Int32) (h : MH) (hK : F_X12_enough_42 k9 l0 l2 h = some (r, hz)) : V 42 [(0, va_rf l0), (2, .int l2)] [] h := by
  unfold F_X12_enough_42 at hK
  refine mm_iload_n C (pc := 42) 1 dX12_enough_42 rfl ?_
  replace hK := mm_b2s hK; obtain ⟨v43, h43, e43, hK⟩ := hK
  refine mm_callS C (pc := 43) (d1 := 1) (As := [.int l2]) (st := []) (vk := (some (.int v43))) ((S_X12_size (by omega)) e43) tT_X12_size wd_2424 wd_2425 (by omega) (by decide) rfl (by simp [mm_crf, mm_cti, mm_ctl]) rfl dX12_enough_43 ?_
  show V _ _ (.int v43 :: _) _
  refine mm_istore_n C (pc := 46) (i := 1) (lv' := [(1, .int v43), (0, va_rf l0), (2, .int l2)]) dX12_enough_46 rfl (by decide) (by simp [mm_crf]) ?_
  refine mm_sub C [1, 0, 2] rfl ?_
  exact w_X12_enough_47 hd C (fun z0 z1 z2 z3 hK => q9 z0 z1 z2 z3 hK) _ _ _ _ hK
def F_X12_enough_9 : Nat → Option Nat → Int32 → Int32 → MH → Option (Int32 × MH)
  | 0 => fun _ _ _ _ => none
  | n + 1 => fun l0 l1 l2 h => (gR h l0 12 0).bind fun v12 => (aI h v12 0 (2 : Int32)).bind fun v16 => if ((1 : Int32) <<< (v16 &&& 31)) ≤ l2 then (some (l1, h)) else (mm_b2 (cV h l0 12 (F_X12_isEnough l0 l2 h)) fun v23 h23 => if v23 = 0 then (F_X12_enough_47 (F_X12_enough_9 n) l0 l1 l2 h23) else (if l1 = ((-1) : Int32) then (F_X12_enough_42 (F_X12_enough_9 n) l0 l2 h23) else (mm_b2 (F_X12_size l2 h23) fun v35 h35 => if l1 ≤ v35 then (F_X12_enough_47 (F_X12_enough_9 n) l0 l1 l2 h35) else (F_X12_enough_42 (F_X12_enough_9 n) l0 l2 h35))))
set_option maxRecDepth 20000 in
set_option maxHeartbeats 4000000 in
theorem w_X12_enough_9 {d : Nat} {V : Nat → List (Nat × Value) → List Value → MH → Prop} {r : Int32} {hz : MH} (hd : 4 ≤ d) (C : mm_C d yX12_enough cX12_enough 3 (some .int) (.inr (some (.int r))) hz V) : ∀ (n : Nat) (l0 : Option Nat) (l1 : Int32) (l2 : Int32) (h : MH), F_X12_enough_9 n l0 l1 l2 h = some (r, hz) → V 9 [(0, va_rf l0), (1, .int l1), (2, .int l2)] [] h := by
  intro n
  induction n with
  | zero => intro l0 l1 l2 h hK; cases hK
  | succ n ih =>
    intro l0 l1 l2 h hK
    replace hK : ((gR h l0 12 0).bind fun v12 => (aI h v12 0 (2 : Int32)).bind fun v16 => if ((1 : Int32) <<< (v16 &&& 31)) ≤ l2 then (some (l1, h)) else (mm_b2 (cV h l0 12 (F_X12_isEnough l0 l2 h)) fun v23 h23 => if v23 = 0 then (F_X12_enough_47 (F_X12_enough_9 n) l0 l1 l2 h23) else (if l1 = ((-1) : Int32) then (F_X12_enough_42 (F_X12_enough_9 n) l0 l2 h23) else (mm_b2 (F_X12_size l2 h23) fun v35 h35 => if l1 ≤ v35 then (F_X12_enough_47 (F_X12_enough_9 n) l0 l1 l2 h35) else (F_X12_enough_42 (F_X12_enough_9 n) l0 l2 h35))))) = some (r, hz) := hK
    refine mm_iload_n C (pc := 9) 2 dX12_enough_9 rfl ?_
    refine mm_iconst C (pc := 10) (v := (1 : Int32)) dX12_enough_10 (by decide) ?_
    refine mm_aload_n C (pc := 11) 0 dX12_enough_11 rfl ?_
    replace hK := mm_bd hK; obtain ⟨v12, e12, hK⟩ := hK
    refine mm_getr C (pc := 12) (k := 0) inGX12 rfl (by decide) wd_1999 dX12_enough_12 e12 ?_
    refine mm_iconst C (pc := 15) (v := (2 : Int32)) dX12_enough_15 (by decide) ?_
    replace hK := mm_bd hK; obtain ⟨v16, e16, hK⟩ := hK
    refine mm_iald C (pc := 16) dX12_enough_16 e16 ?_
    refine mm_ishl C (pc := 17) dX12_enough_17 ?_
    refine mm_icmp_ge C (pc := 18) (tgt := 53) dX12_enough_18 (by decide) (fun hc => ?_) (fun hc => ?_)
    · replace hK := mm_ip hc hK
      refine mm_iload_n C (pc := 53) 1 dX12_enough_53 rfl ?_
      cases hK
      exact mm_iret C (pc := 54) rfl dX12_enough_54 rfl rfl
    · replace hK := mm_in hc hK
      refine mm_aload_n C (pc := 21) 0 dX12_enough_21 rfl ?_
      refine mm_iload_n C (pc := 22) 2 dX12_enough_22 rfl ?_
      replace hK := mm_b2s hK; obtain ⟨v23, h23, e23, hK⟩ := hK
      obtain ⟨o23, e23⟩ := cV_some e23
      refine mm_callV C (pc := 23) (d1 := 3) (As := [.int l2]) (st := []) (vk := (some (.int v23))) ((S_X12_isEnough (by omega)) e23) tT_X12_isEnough o23 (Or.inr ⟨_, rfl, rfl⟩) wd_2566 wd_2568 wd_121 (by omega) (by decide) rfl (by simp [mm_crf, mm_cti, mm_ctl]) rfl dX12_enough_23 ?_
      show V _ _ (.int v23 :: _) _
      refine mm_if_eq C (pc := 26) (tgt := 47) dX12_enough_26 (by decide) (fun hc => ?_) (fun hc => ?_)
      · replace hK := mm_ip hc hK
        exact w_X12_enough_47 hd C (fun z0 z1 z2 z3 hK => ih z0 z1 z2 z3 hK) _ _ _ _ hK
      · replace hK := mm_in hc hK
        refine mm_iload_n C (pc := 29) 1 dX12_enough_29 rfl ?_
        refine mm_iconst C (pc := 30) (v := ((-1) : Int32)) dX12_enough_30 (by decide) ?_
        refine mm_icmp_eq C (pc := 31) (tgt := 42) dX12_enough_31 (by decide) (fun hc => ?_) (fun hc => ?_)
        · replace hK := mm_ip hc hK
          refine mm_sub C [0, 2] rfl ?_
          exact w_X12_enough_42 hd C (fun z0 z1 z2 z3 hK => ih z0 z1 z2 z3 hK) _ _ _ hK
        · replace hK := mm_in hc hK
          refine mm_iload_n C (pc := 34) 2 dX12_enough_34 rfl ?_
          replace hK := mm_b2s hK; obtain ⟨v35, h35, e35, hK⟩ := hK
          refine mm_callS C (pc := 35) (d1 := 1) (As := [.int l2]) (st := []) (vk := (some (.int v35))) ((S_X12_size (by omega)) e35) tT_X12_size wd_2424 wd_2425 (by omega) (by decide) rfl (by simp [mm_crf, mm_cti, mm_ctl]) rfl dX12_enough_35 ?_
          show V _ _ (.int v35 :: _) _
          refine mm_iload_n C (pc := 38) 1 dX12_enough_38 rfl ?_
          refine mm_icmp_ge C (pc := 39) (tgt := 47) dX12_enough_39 (by decide) (fun hc => ?_) (fun hc => ?_)
          · replace hK := mm_ip hc hK
            exact w_X12_enough_47 hd C (fun z0 z1 z2 z3 hK => ih z0 z1 z2 z3 hK) _ _ _ _ hK
          · replace hK := mm_in hc hK
            refine mm_sub C [0, 2] rfl ?_
            exact w_X12_enough_42 hd C (fun z0 z1 z2 z3 hK => ih z0 z1 z2 z3 hK) _ _ _ hK
def F_X12_enough (a0 : Option Nat) (h : MH) : Option (Int32 × MH) := (pI h a0 12 4 (0 : Int32)).bind fun h2 => F_X12_enough_9 mm_N a0 ((-1) : Int32) (0 : Int32) h2
set_option maxRecDepth 20000 in
set_option maxHeartbeats 4000000 in
theorem S_X12_enough {d : Nat} (hd : 4 ≤ d) {a0 : Option Nat} {h : MH} {r : Int32} {hz : MH} (hK : F_X12_enough a0 h = some (r, hz)) : mm_M yX12_enough cX12_enough 3 (some .int) d [va_rf a0] h (.inr (some (.int r))) hz := by
  refine mm_ofV (by decide +kernel) (by simp [lg_sl, mm_crf, mm_cti, mm_ctl]) (fun V C => ?_)
  rw [show lv_args 0 [va_rf a0] = [(0, va_rf a0)] by simp [lv_args, mm_crf, mm_cti, mm_ctl]]
  unfold F_X12_enough at hK
  refine mm_aload_n C (pc := 0) 0 dX12_enough_0 rfl ?_
  refine mm_iconst C (pc := 1) (v := (0 : Int32)) dX12_enough_1 (by decide) ?_
  replace hK := mm_bd hK; obtain ⟨h2, e2, hK⟩ := hK
  refine mm_puti C (pc := 2) (k := 4) false (fun z => by cases z) inGX12 tyX12 tyX12_ok nmX12 rfl (by decide) wd_2003 rfl rfl dX12_enough_2 e2 ?_
  refine mm_iconst C (pc := 5) (v := ((-1) : Int32)) dX12_enough_5 (by decide) ?_
  refine mm_istore_n C (pc := 6) (i := 1) (lv' := [(1, .int ((-1) : Int32)), (0, va_rf a0)]) dX12_enough_6 rfl (by decide) (by simp [mm_crf]) ?_
  refine mm_iconst C (pc := 7) (v := (0 : Int32)) dX12_enough_7 (by decide) ?_
  refine mm_istore_n C (pc := 8) (i := 2) (lv' := [(2, .int (0 : Int32)), (1, .int ((-1) : Int32)), (0, va_rf a0)]) dX12_enough_8 rfl (by decide) rfl ?_
  refine mm_sub C [2, 1, 0] rfl ?_
  exact w_X12_enough_9 hd C _ _ _ _ _ hK
def F_X12_twosFault_143 (s0 : Int32) (h : MH) : Option (Int32 × MH) := some (s0, h)
set_option maxRecDepth 20000 in
set_option maxHeartbeats 4000000 in
theorem w_X12_twosFault_143 {d : Nat} {V : Nat → List (Nat × Value) → List Value → MH → Prop} {r : Int32} {hz : MH} (hd : 4 ≤ d) (C : mm_C d yX12_twosFault cX12_twosFault 5 (some .int) (.inr (some (.int r))) hz V) (s0 : Int32) (h : MH) (hK : F_X12_twosFault_143 s0 h = some (r, hz)) : V 143 [] [.int s0] h := by
  unfold F_X12_twosFault_143 at hK
  cases hK
  exact mm_iret C (pc := 143) rfl dX12_twosFault_143 rfl rfl
def F_X12_twosFault_134 (l3 : Int32) (h : MH) : Option (Int32 × MH) := if l3 = 0 then (F_X12_twosFault_143 (3 : Int32) h) else (F_X12_twosFault_143 (0 : Int32) h)
set_option maxRecDepth 20000 in
set_option maxHeartbeats 4000000 in
theorem w_X12_twosFault_134 {d : Nat} {V : Nat → List (Nat × Value) → List Value → MH → Prop} {r : Int32} {hz : MH} (hd : 4 ≤ d) (C : mm_C d yX12_twosFault cX12_twosFault 5 (some .int) (.inr (some (.int r))) hz V) (l3 : Int32) (h : MH) (hK : F_X12_twosFault_134 l3 h = some (r, hz)) : V 134 [(3, .int l3)] [] h := by
  unfold F_X12_twosFault_134 at hK
  refine mm_iload_n C (pc := 134) 0 dX12_twosFault_134 rfl ?_
  refine mm_if_eq C (pc := 135) (tgt := 142) dX12_twosFault_135 (by decide) (fun hc => ?_) (fun hc => ?_)
  · replace hK := mm_ip hc hK
    refine mm_iconst C (pc := 142) (v := (3 : Int32)) dX12_twosFault_142 (by decide) ?_
    refine mm_sub C [] rfl ?_
    exact w_X12_twosFault_143 hd C _ _ hK
  · replace hK := mm_in hc hK
    refine mm_iconst C (pc := 138) (v := (0 : Int32)) dX12_twosFault_138 (by decide) ?_
    refine mm_goto C (pc := 139) (tgt := 143) dX12_twosFault_139 (by decide) ?_
    refine mm_sub C [] rfl ?_
    exact w_X12_twosFault_143 hd C _ _ hK
def F_X12_twosFault_127 (k51 : Option Nat → Int32 → Int32 → Int32 → MH → Option (Int32 × MH)) (l0 : Option Nat) (l1 : Int32) (l4 : Int32) (s0 : Int32) (h : MH) : Option (Int32 × MH) := k51 l0 l1 s0 (l4 + (1 : Int32)) h
set_option maxRecDepth 20000 in
set_option maxHeartbeats 4000000 in
theorem w_X12_twosFault_127 {d : Nat} {V : Nat → List (Nat × Value) → List Value → MH → Prop} {r : Int32} {hz : MH} {k51 : Option Nat → Int32 → Int32 → Int32 → MH → Option (Int32 × MH)} (hd : 4 ≤ d) (C : mm_C d yX12_twosFault cX12_twosFault 5 (some .int) (.inr (some (.int r))) hz V) (q51 : ∀ (x0 : Option Nat) (x1 : Int32) (x2 : Int32) (x3 : Int32) (h : MH), k51 x0 x1 x2 x3 h = some (r, hz) → V 51 [(0, va_rf x0), (1, .int x1), (3, .int x2), (4, .int x3)] [] h) (l0 : Option Nat) (l1 : Int32) (l4 : Int32) (s0 : Int32) (h : MH) (hK : F_X12_twosFault_127 k51 l0 l1 l4 s0 h = some (r, hz)) : V 127 [(0, va_rf l0), (1, .int l1), (4, .int l4)] [.int s0] h := by
  unfold F_X12_twosFault_127 at hK
  refine mm_istore_n C (pc := 127) (i := 3) (lv' := [(3, .int s0), (0, va_rf l0), (1, .int l1), (4, .int l4)]) dX12_twosFault_127 rfl (by decide) rfl ?_
  refine mm_iinc C (pc := 128) (v := (l4 + (1 : Int32))) (lv' := [(4, .int (l4 + (1 : Int32))), (3, .int s0), (0, va_rf l0), (1, .int l1)]) 3 dX12_twosFault_128 rfl rfl (by decide) rfl ?_
  refine mm_goto C (pc := 131) (tgt := 51) dX12_twosFault_131 (by decide) ?_
  refine mm_sub C [2, 3, 1, 0] rfl ?_
  exact q51 _ _ _ _ _ hK
def F_X12_twosFault_126 (k51 : Option Nat → Int32 → Int32 → Int32 → MH → Option (Int32 × MH)) (l0 : Option Nat) (l1 : Int32) (l4 : Int32) (h : MH) : Option (Int32 × MH) := F_X12_twosFault_127 k51 l0 l1 l4 (0 : Int32) h
set_option maxRecDepth 20000 in
set_option maxHeartbeats 4000000 in
theorem w_X12_twosFault_126 {d : Nat} {V : Nat → List (Nat × Value) → List Value → MH → Prop} {r : Int32} {hz : MH} {k51 : Option Nat → Int32 → Int32 → Int32 → MH → Option (Int32 × MH)} (hd : 4 ≤ d) (C : mm_C d yX12_twosFault cX12_twosFault 5 (some .int) (.inr (some (.int r))) hz V) (q51 : ∀ (x0 : Option Nat) (x1 : Int32) (x2 : Int32) (x3 : Int32) (h : MH), k51 x0 x1 x2 x3 h = some (r, hz) → V 51 [(0, va_rf x0), (1, .int x1), (3, .int x2), (4, .int x3)] [] h) (l0 : Option Nat) (l1 : Int32) (l4 : Int32) (h : MH) (hK : F_X12_twosFault_126 k51 l0 l1 l4 h = some (r, hz)) : V 126 [(0, va_rf l0), (1, .int l1), (4, .int l4)] [] h := by
  unfold F_X12_twosFault_126 at hK
  refine mm_iconst C (pc := 126) (v := (0 : Int32)) dX12_twosFault_126 (by decide) ?_
  exact w_X12_twosFault_127 hd C (fun z0 z1 z2 z3 z4 hK => q51 z0 z1 z2 z3 z4 hK) _ _ _ _ _ hK
def F_X12_twosFault_122 (k51 : Option Nat → Int32 → Int32 → Int32 → MH → Option (Int32 × MH)) (l0 : Option Nat) (l1 : Int32) (l4 : Int32) (h : MH) : Option (Int32 × MH) := F_X12_twosFault_127 k51 l0 l1 l4 (1 : Int32) h
set_option maxRecDepth 20000 in
set_option maxHeartbeats 4000000 in
theorem w_X12_twosFault_122 {d : Nat} {V : Nat → List (Nat × Value) → List Value → MH → Prop} {r : Int32} {hz : MH} {k51 : Option Nat → Int32 → Int32 → Int32 → MH → Option (Int32 × MH)} (hd : 4 ≤ d) (C : mm_C d yX12_twosFault cX12_twosFault 5 (some .int) (.inr (some (.int r))) hz V) (q51 : ∀ (x0 : Option Nat) (x1 : Int32) (x2 : Int32) (x3 : Int32) (h : MH), k51 x0 x1 x2 x3 h = some (r, hz) → V 51 [(0, va_rf x0), (1, .int x1), (3, .int x2), (4, .int x3)] [] h) (l0 : Option Nat) (l1 : Int32) (l4 : Int32) (h : MH) (hK : F_X12_twosFault_122 k51 l0 l1 l4 h = some (r, hz)) : V 122 [(0, va_rf l0), (1, .int l1), (4, .int l4)] [] h := by
  unfold F_X12_twosFault_122 at hK
  refine mm_iconst C (pc := 122) (v := (1 : Int32)) dX12_twosFault_122 (by decide) ?_
  refine mm_goto C (pc := 123) (tgt := 127) dX12_twosFault_123 (by decide) ?_
  exact w_X12_twosFault_127 hd C (fun z0 z1 z2 z3 z4 hK => q51 z0 z1 z2 z3 z4 hK) _ _ _ _ _ hK
def F_X12_twosFault_51 : Nat → Option Nat → Int32 → Int32 → Int32 → MH → Option (Int32 × MH)
  | 0 => fun _ _ _ _ _ => none
  | n + 1 => fun l0 l1 l3 l4 h => (gR h l0 12 46).bind fun v54 => (aI h v54 0 l1).bind fun v58 => if v58 ≤ l4 then (F_X12_twosFault_134 l3 h) else (if l3 = 0 then (F_X12_twosFault_134 l3 h) else ((gR h l0 12 47).bind fun v68 => (aL h v68 (((30 : Int32) * l1) + l4)).bind fun v78 => mm_b2 (cV h l0 12 (F_X12_isLine l0 v78 h)) fun v79 h79 => if v79 = 0 then (F_X12_twosFault_126 (F_X12_twosFault_51 n) l0 l1 l4 h79) else (if (l4 - l4 / (2 : Int32) * (2 : Int32)) = 0 then (F_X12_twosFault_122 (F_X12_twosFault_51 n) l0 l1 l4 h79) else ((gR h79 l0 12 47).bind fun v93 => (aL h79 v93 (((30 : Int32) * l1) + l4)).bind fun v103 => (gR h79 l0 12 47).bind fun v105 => (aL h79 v105 ((((30 : Int32) * l1) + l4) - (1 : Int32))).bind fun v117 => if (lg_cmp v103 v117) = 0 then (F_X12_twosFault_126 (F_X12_twosFault_51 n) l0 l1 l4 h79) else (F_X12_twosFault_122 (F_X12_twosFault_51 n) l0 l1 l4 h79)))))
set_option maxRecDepth 20000 in
set_option maxHeartbeats 4000000 in
theorem w_X12_twosFault_51 {d : Nat} {V : Nat → List (Nat × Value) → List Value → MH → Prop} {r : Int32} {hz : MH} (hd : 4 ≤ d) (C : mm_C d yX12_twosFault cX12_twosFault 5 (some .int) (.inr (some (.int r))) hz V) : ∀ (n : Nat) (l0 : Option Nat) (l1 : Int32) (l3 : Int32) (l4 : Int32) (h : MH), F_X12_twosFault_51 n l0 l1 l3 l4 h = some (r, hz) → V 51 [(0, va_rf l0), (1, .int l1), (3, .int l3), (4, .int l4)] [] h := by
  intro n
  induction n with
  | zero => intro l0 l1 l3 l4 h hK; cases hK
  | succ n ih =>
    intro l0 l1 l3 l4 h hK
    replace hK : ((gR h l0 12 46).bind fun v54 => (aI h v54 0 l1).bind fun v58 => if v58 ≤ l4 then (F_X12_twosFault_134 l3 h) else (if l3 = 0 then (F_X12_twosFault_134 l3 h) else ((gR h l0 12 47).bind fun v68 => (aL h v68 (((30 : Int32) * l1) + l4)).bind fun v78 => mm_b2 (cV h l0 12 (F_X12_isLine l0 v78 h)) fun v79 h79 => if v79 = 0 then (F_X12_twosFault_126 (F_X12_twosFault_51 n) l0 l1 l4 h79) else (if (l4 - l4 / (2 : Int32) * (2 : Int32)) = 0 then (F_X12_twosFault_122 (F_X12_twosFault_51 n) l0 l1 l4 h79) else ((gR h79 l0 12 47).bind fun v93 => (aL h79 v93 (((30 : Int32) * l1) + l4)).bind fun v103 => (gR h79 l0 12 47).bind fun v105 => (aL h79 v105 ((((30 : Int32) * l1) + l4) - (1 : Int32))).bind fun v117 => if (lg_cmp v103 v117) = 0 then (F_X12_twosFault_126 (F_X12_twosFault_51 n) l0 l1 l4 h79) else (F_X12_twosFault_122 (F_X12_twosFault_51 n) l0 l1 l4 h79)))))) = some (r, hz) := hK
    refine mm_iload C (pc := 51) 3 dX12_twosFault_51 rfl ?_
    refine mm_aload_n C (pc := 53) 0 dX12_twosFault_53 rfl ?_
    replace hK := mm_bd hK; obtain ⟨v54, e54, hK⟩ := hK
    refine mm_getr C (pc := 54) (k := 46) inGX12 rfl (by decide) wd_2045 dX12_twosFault_54 e54 ?_
    refine mm_iload_n C (pc := 57) 1 dX12_twosFault_57 rfl ?_
    replace hK := mm_bd hK; obtain ⟨v58, e58, hK⟩ := hK
    refine mm_iald C (pc := 58) dX12_twosFault_58 e58 ?_
    refine mm_icmp_ge C (pc := 59) (tgt := 134) dX12_twosFault_59 (by decide) (fun hc => ?_) (fun hc => ?_)
    · replace hK := mm_ip hc hK
      refine mm_sub C [2] rfl ?_
      exact w_X12_twosFault_134 hd C _ _ hK
    · replace hK := mm_in hc hK
      refine mm_iload_n C (pc := 62) 2 dX12_twosFault_62 rfl ?_
      refine mm_if_eq C (pc := 63) (tgt := 134) dX12_twosFault_63 (by decide) (fun hc => ?_) (fun hc => ?_)
      · replace hK := mm_ip hc hK
        refine mm_sub C [2] rfl ?_
        exact w_X12_twosFault_134 hd C _ _ hK
      · replace hK := mm_in hc hK
        refine mm_aload_n C (pc := 66) 0 dX12_twosFault_66 rfl ?_
        refine mm_aload_n C (pc := 67) 0 dX12_twosFault_67 rfl ?_
        replace hK := mm_bd hK; obtain ⟨v68, e68, hK⟩ := hK
        refine mm_getr C (pc := 68) (k := 47) inGX12 rfl (by decide) wd_2046 dX12_twosFault_68 e68 ?_
        refine mm_bipush C (pc := 71) (v := (30 : Int32)) dX12_twosFault_71 (by decide) ?_
        refine mm_iload_n C (pc := 73) 1 dX12_twosFault_73 rfl ?_
        refine mm_imul C (pc := 74) dX12_twosFault_74 ?_
        refine mm_iload C (pc := 75) 3 dX12_twosFault_75 rfl ?_
        refine mm_iadd C (pc := 77) dX12_twosFault_77 ?_
        replace hK := mm_bd hK; obtain ⟨v78, e78, hK⟩ := hK
        refine mm_lald C (pc := 78) dX12_twosFault_78 e78 ?_
        replace hK := mm_b2s hK; obtain ⟨v79, h79, e79, hK⟩ := hK
        obtain ⟨o79, e79⟩ := cV_some e79
        refine mm_callV C (pc := 79) (d1 := 2) (As := [.long v78]) (st := []) (vk := (some (.int v79))) ((S_X12_isLine (by omega)) e79) tT_X12_isLine o79 (Or.inr ⟨_, rfl, rfl⟩) wd_2307 wd_2309 wd_88 (by omega) (by decide) rfl (by simp [mm_crf, mm_cti, mm_ctl]) rfl dX12_twosFault_79 ?_
        show V _ _ (.int v79 :: _) _
        refine mm_if_eq C (pc := 82) (tgt := 126) dX12_twosFault_82 (by decide) (fun hc => ?_) (fun hc => ?_)
        · replace hK := mm_ip hc hK
          refine mm_sub C [0, 1, 3] rfl ?_
          exact w_X12_twosFault_126 hd C (fun z0 z1 z2 z3 z4 hK => ih z0 z1 z2 z3 z4 hK) _ _ _ _ hK
        · replace hK := mm_in hc hK
          refine mm_iload C (pc := 85) 3 dX12_twosFault_85 rfl ?_
          refine mm_iconst C (pc := 87) (v := (2 : Int32)) dX12_twosFault_87 (by decide) ?_
          refine mm_irem C (pc := 88) dX12_twosFault_88 (by decide) ?_
          refine mm_if_eq C (pc := 89) (tgt := 122) dX12_twosFault_89 (by decide) (fun hc => ?_) (fun hc => ?_)
          · replace hK := mm_ip hc hK
            refine mm_sub C [0, 1, 3] rfl ?_
            exact w_X12_twosFault_122 hd C (fun z0 z1 z2 z3 z4 hK => ih z0 z1 z2 z3 z4 hK) _ _ _ _ hK
          · replace hK := mm_in hc hK
            refine mm_aload_n C (pc := 92) 0 dX12_twosFault_92 rfl ?_
            replace hK := mm_bd hK; obtain ⟨v93, e93, hK⟩ := hK
            refine mm_getr C (pc := 93) (k := 47) inGX12 rfl (by decide) wd_2046 dX12_twosFault_93 e93 ?_
            refine mm_bipush C (pc := 96) (v := (30 : Int32)) dX12_twosFault_96 (by decide) ?_
            refine mm_iload_n C (pc := 98) 1 dX12_twosFault_98 rfl ?_
            refine mm_imul C (pc := 99) dX12_twosFault_99 ?_
            refine mm_iload C (pc := 100) 3 dX12_twosFault_100 rfl ?_
            refine mm_iadd C (pc := 102) dX12_twosFault_102 ?_
            replace hK := mm_bd hK; obtain ⟨v103, e103, hK⟩ := hK
            refine mm_lald C (pc := 103) dX12_twosFault_103 e103 ?_
            refine mm_aload_n C (pc := 104) 0 dX12_twosFault_104 rfl ?_
            replace hK := mm_bd hK; obtain ⟨v105, e105, hK⟩ := hK
            refine mm_getr C (pc := 105) (k := 47) inGX12 rfl (by decide) wd_2046 dX12_twosFault_105 e105 ?_
            refine mm_bipush C (pc := 108) (v := (30 : Int32)) dX12_twosFault_108 (by decide) ?_
            refine mm_iload_n C (pc := 110) 1 dX12_twosFault_110 rfl ?_
            refine mm_imul C (pc := 111) dX12_twosFault_111 ?_
            refine mm_iload C (pc := 112) 3 dX12_twosFault_112 rfl ?_
            refine mm_iadd C (pc := 114) dX12_twosFault_114 ?_
            refine mm_iconst C (pc := 115) (v := (1 : Int32)) dX12_twosFault_115 (by decide) ?_
            refine mm_isub C (pc := 116) dX12_twosFault_116 ?_
            replace hK := mm_bd hK; obtain ⟨v117, e117, hK⟩ := hK
            refine mm_lald C (pc := 117) dX12_twosFault_117 e117 ?_
            refine mm_lcmp C (pc := 118) dX12_twosFault_118 ?_
            refine mm_if_eq C (pc := 119) (tgt := 126) dX12_twosFault_119 (by decide) (fun hc => ?_) (fun hc => ?_)
            · replace hK := mm_ip hc hK
              refine mm_sub C [0, 1, 3] rfl ?_
              exact w_X12_twosFault_126 hd C (fun z0 z1 z2 z3 z4 hK => ih z0 z1 z2 z3 z4 hK) _ _ _ _ hK
            · replace hK := mm_in hc hK
              refine mm_sub C [0, 1, 3] rfl ?_
              exact w_X12_twosFault_122 hd C (fun z0 z1 z2 z3 z4 hK => ih z0 z1 z2 z3 z4 hK) _ _ _ _ hK
def F_X12_twosFault_47 (l0 : Option Nat) (l1 : Int32) (s0 : Int32) (h : MH) : Option (Int32 × MH) := F_X12_twosFault_51 mm_N l0 l1 s0 (0 : Int32) h
set_option maxRecDepth 20000 in
set_option maxHeartbeats 4000000 in
theorem w_X12_twosFault_47 {d : Nat} {V : Nat → List (Nat × Value) → List Value → MH → Prop} {r : Int32} {hz : MH} (hd : 4 ≤ d) (C : mm_C d yX12_twosFault cX12_twosFault 5 (some .int) (.inr (some (.int r))) hz V) (l0 : Option Nat) (l1 : Int32) (s0 : Int32) (h : MH) (hK : F_X12_twosFault_47 l0 l1 s0 h = some (r, hz)) : V 47 [(0, va_rf l0), (1, .int l1)] [.int s0] h := by
  unfold F_X12_twosFault_47 at hK
  refine mm_istore_n C (pc := 47) (i := 3) (lv' := [(3, .int s0), (0, va_rf l0), (1, .int l1)]) dX12_twosFault_47 rfl (by decide) rfl ?_
  refine mm_iconst C (pc := 48) (v := (0 : Int32)) dX12_twosFault_48 (by decide) ?_
  refine mm_istore C (pc := 49) (i := 4) (lv' := [(4, .int (0 : Int32)), (3, .int s0), (0, va_rf l0), (1, .int l1)]) dX12_twosFault_49 (by decide) rfl ?_
  refine mm_sub C [2, 3, 1, 0] rfl ?_
  exact w_X12_twosFault_51 hd C _ _ _ _ _ _ hK
def F_X12_twosFault_46 (l0 : Option Nat) (l1 : Int32) (h : MH) : Option (Int32 × MH) := F_X12_twosFault_47 l0 l1 (0 : Int32) h
set_option maxRecDepth 20000 in
set_option maxHeartbeats 4000000 in
theorem w_X12_twosFault_46 {d : Nat} {V : Nat → List (Nat × Value) → List Value → MH → Prop} {r : Int32} {hz : MH} (hd : 4 ≤ d) (C : mm_C d yX12_twosFault cX12_twosFault 5 (some .int) (.inr (some (.int r))) hz V) (l0 : Option Nat) (l1 : Int32) (h : MH) (hK : F_X12_twosFault_46 l0 l1 h = some (r, hz)) : V 46 [(0, va_rf l0), (1, .int l1)] [] h := by
  unfold F_X12_twosFault_46 at hK
  refine mm_iconst C (pc := 46) (v := (0 : Int32)) dX12_twosFault_46 (by decide) ?_
  exact w_X12_twosFault_47 hd C _ _ _ _ hK
def F_X12_twosFault (a0 : Option Nat) (a1 : Int32) (h : MH) : Option (Int32 × MH) := mm_b2 (cV h a0 12 (F_X12_trayFault a0 a1 h)) fun v2 h2 => if v2 = 0 then ((gR h2 a0 12 46).bind fun v13 => (aI h2 v13 0 a1).bind fun v17 => if (v17 - v17 / (2 : Int32) * (2 : Int32)) = 0 then ((gR h2 a0 12 46).bind fun v24 => (aI h2 v24 0 a1).bind fun v28 => mm_b2 (F_X12_within (v28.toInt64) (2 : Int64) (6 : Int64) h2) fun v36 h36 => if v36 = 0 then (F_X12_twosFault_46 a0 a1 h36) else (F_X12_twosFault_47 a0 a1 (1 : Int32) h36)) else (F_X12_twosFault_46 a0 a1 h2)) else (some (v2, h2))
set_option maxRecDepth 20000 in
set_option maxHeartbeats 4000000 in
theorem S_X12_twosFault {d : Nat} (hd : 4 ≤ d) {a0 : Option Nat} {a1 : Int32} {h : MH} {r : Int32} {hz : MH} (hK : F_X12_twosFault a0 a1 h = some (r, hz)) : mm_M yX12_twosFault cX12_twosFault 5 (some .int) d [va_rf a0, .int a1] h (.inr (some (.int r))) hz := by
  refine mm_ofV (by decide +kernel) (by simp [lg_sl, mm_crf, mm_cti, mm_ctl]) (fun V C => ?_)
  rw [show lv_args 0 [va_rf a0, .int a1] = [(0, va_rf a0), (1, .int a1)] by simp [lv_args, mm_crf, mm_cti, mm_ctl]]
  unfold F_X12_twosFault at hK
  refine mm_aload_n C (pc := 0) 0 dX12_twosFault_0 rfl ?_
  refine mm_iload_n C (pc := 1) 1 dX12_twosFault_1 rfl ?_
  replace hK := mm_b2s hK; obtain ⟨v2, h2, e2, hK⟩ := hK
  obtain ⟨o2, e2⟩ := cV_some e2
  refine mm_callV C (pc := 2) (d1 := 3) (As := [.int a1]) (st := []) (vk := (some (.int v2))) ((S_X12_trayFault (by omega)) e2) tT_X12_trayFault o2 (Or.inr ⟨_, rfl, rfl⟩) wd_2436 wd_2438 wd_104 (by omega) (by decide) rfl (by simp [mm_crf, mm_cti, mm_ctl]) rfl dX12_twosFault_2 ?_
  show V _ _ (.int v2 :: _) _
  refine mm_istore_n C (pc := 5) (i := 2) (lv' := [(2, .int v2), (0, va_rf a0), (1, .int a1)]) dX12_twosFault_5 rfl (by decide) rfl ?_
  refine mm_iload_n C (pc := 6) 0 dX12_twosFault_6 rfl ?_
  refine mm_if_eq C (pc := 7) (tgt := 12) dX12_twosFault_7 (by decide) (fun hc => ?_) (fun hc => ?_)
  · replace hK := mm_ip hc hK
    refine mm_aload_n C (pc := 12) 1 dX12_twosFault_12 rfl ?_
    replace hK := mm_bd hK; obtain ⟨v13, e13, hK⟩ := hK
    refine mm_getr C (pc := 13) (k := 46) inGX12 rfl (by decide) wd_2045 dX12_twosFault_13 e13 ?_
    refine mm_iload_n C (pc := 16) 2 dX12_twosFault_16 rfl ?_
    replace hK := mm_bd hK; obtain ⟨v17, e17, hK⟩ := hK
    refine mm_iald C (pc := 17) dX12_twosFault_17 e17 ?_
    refine mm_iconst C (pc := 18) (v := (2 : Int32)) dX12_twosFault_18 (by decide) ?_
    refine mm_irem C (pc := 19) dX12_twosFault_19 (by decide) ?_
    refine mm_if_ne C (pc := 20) (tgt := 46) dX12_twosFault_20 (by decide) (fun hc => ?_) (fun hc => ?_)
    · replace hK := mm_in hc hK
      refine mm_sub C [1, 2] rfl ?_
      exact w_X12_twosFault_46 hd C _ _ _ hK
    · replace hK := mm_ip hc hK
      refine mm_aload_n C (pc := 23) 1 dX12_twosFault_23 rfl ?_
      replace hK := mm_bd hK; obtain ⟨v24, e24, hK⟩ := hK
      refine mm_getr C (pc := 24) (k := 46) inGX12 rfl (by decide) wd_2045 dX12_twosFault_24 e24 ?_
      refine mm_iload_n C (pc := 27) 2 dX12_twosFault_27 rfl ?_
      replace hK := mm_bd hK; obtain ⟨v28, e28, hK⟩ := hK
      refine mm_iald C (pc := 28) dX12_twosFault_28 e28 ?_
      refine mm_i2l C (pc := 29) dX12_twosFault_29 ?_
      refine mm_ldc2 C (pc := 30) (v := (2 : Int64)) dX12_twosFault_30 wd_2311 ?_
      refine mm_ldc2 C (pc := 33) (v := (6 : Int64)) dX12_twosFault_33 wd_2339 ?_
      replace hK := mm_b2s hK; obtain ⟨v36, h36, e36, hK⟩ := hK
      refine mm_callS C (pc := 36) (d1 := 1) (As := [.long (v28.toInt64), .long (2 : Int64), .long (6 : Int64)]) (st := []) (vk := (some (.int v36))) ((S_X12_within (by omega)) e36) tT_X12_within wd_2157 wd_2158 (by omega) (by decide) rfl (by simp [mm_crf, mm_cti, mm_ctl]) rfl dX12_twosFault_36 ?_
      show V _ _ (.int v36 :: _) _
      refine mm_if_eq C (pc := 39) (tgt := 46) dX12_twosFault_39 (by decide) (fun hc => ?_) (fun hc => ?_)
      · replace hK := mm_ip hc hK
        refine mm_sub C [1, 2] rfl ?_
        exact w_X12_twosFault_46 hd C _ _ _ hK
      · replace hK := mm_in hc hK
        refine mm_iconst C (pc := 42) (v := (1 : Int32)) dX12_twosFault_42 (by decide) ?_
        refine mm_goto C (pc := 43) (tgt := 47) dX12_twosFault_43 (by decide) ?_
        refine mm_sub C [1, 2] rfl ?_
        exact w_X12_twosFault_47 hd C _ _ _ _ hK
  · replace hK := mm_in hc hK
    refine mm_iload_n C (pc := 10) 0 dX12_twosFault_10 rfl ?_
    cases hK
    exact mm_iret C (pc := 11) rfl dX12_twosFault_11 rfl rfl
def F_X12_told (a0 : Option Nat) (a1 : Int32) (a2 : Int32) (h : MH) : Option (Int32 × MH) := (gR h a0 12 47).bind fun v1 => (aL h v1 (((30 : Int32) * a1) + a2)).bind fun v10 => some ((v10.toInt32), h)
set_option maxRecDepth 20000 in
set_option maxHeartbeats 4000000 in
theorem S_X12_told {d : Nat} (hd : 1 ≤ d) {a0 : Option Nat} {a1 : Int32} {a2 : Int32} {h : MH} {r : Int32} {hz : MH} (hK : F_X12_told a0 a1 a2 h = some (r, hz)) : mm_M yX12_told cX12_told 3 (some .int) d [va_rf a0, .int a1, .int a2] h (.inr (some (.int r))) hz := by
  refine mm_ofV (by decide +kernel) (by simp [lg_sl, mm_crf, mm_cti, mm_ctl]) (fun V C => ?_)
  rw [show lv_args 0 [va_rf a0, .int a1, .int a2] = [(0, va_rf a0), (1, .int a1), (2, .int a2)] by simp [lv_args, mm_crf, mm_cti, mm_ctl]]
  unfold F_X12_told at hK
  refine mm_aload_n C (pc := 0) 0 dX12_told_0 rfl ?_
  replace hK := mm_bd hK; obtain ⟨v1, e1, hK⟩ := hK
  refine mm_getr C (pc := 1) (k := 47) inGX12 rfl (by decide) wd_2046 dX12_told_1 e1 ?_
  refine mm_bipush C (pc := 4) (v := (30 : Int32)) dX12_told_4 (by decide) ?_
  refine mm_iload_n C (pc := 6) 1 dX12_told_6 rfl ?_
  refine mm_imul C (pc := 7) dX12_told_7 ?_
  refine mm_iload_n C (pc := 8) 2 dX12_told_8 rfl ?_
  refine mm_iadd C (pc := 9) dX12_told_9 ?_
  replace hK := mm_bd hK; obtain ⟨v10, e10, hK⟩ := hK
  refine mm_lald C (pc := 10) dX12_told_10 e10 ?_
  refine mm_l2i C (pc := 11) dX12_told_11 ?_
  cases hK
  exact mm_iret C (pc := 12) rfl dX12_told_12 rfl rfl
theorem wd_2585 : Cond.code yX12_told cX12_told 3 (some .int) ∈ lw_good := mm_wd 2585 (by decide +kernel) (by decide +kernel)
theorem tT_X12_told : mm_T yX12_told cX12_told 3 (some .int) 2 := ⟨wd_2585, wd_170, by decide +kernel, by decide +kernel, by decide +kernel, by decide +kernel⟩
theorem wd_2582 : Cond.methodLink RX12 460 yX12_told ∈ lw_good := mm_wd 2582 (by decide +kernel) (by decide +kernel)
theorem wd_2584 : Cond.instanceMethod yX12_told ∈ lw_good := mm_wd 2584 (by decide +kernel) (by decide +kernel)
theorem wd_124 : Cond.selects RX12 yX12_told yX12_told ∈ lw_good := mm_wd 124 (by decide +kernel) (by decide +kernel)
theorem wd_2589 : Cond.code yX12_joins cX12_joins 5 (some .boolean) ∈ lw_good := mm_wd 2589 (by decide +kernel) (by decide +kernel)
theorem tT_X12_joins : mm_T yX12_joins cX12_joins 5 (some .boolean) 3 := ⟨wd_2589, wd_170, by decide +kernel, by decide +kernel, by decide +kernel, by decide +kernel⟩
theorem wd_2586 : Cond.methodLink RX12 463 yX12_joins ∈ lw_good := mm_wd 2586 (by decide +kernel) (by decide +kernel)
theorem wd_2588 : Cond.instanceMethod yX12_joins ∈ lw_good := mm_wd 2588 (by decide +kernel) (by decide +kernel)
theorem wd_125 : Cond.selects RX12 yX12_joins yX12_joins ∈ lw_good := mm_wd 125 (by decide +kernel) (by decide +kernel)
abbrev PT_X12_joins : Type := (Option Nat → Int32 → Int32 → Int32 → MH → Option (Int32 × MH))
def PH_X12_joins (p : PT_X12_joins) (d0 : Nat) : Prop := (∀ d : Nat, d0 ≤ d → ∀ {a0 : Option Nat} {a1 : Int32} {a2 : Int32} {a3 : Int32} {h : MH} {r : Int32} {hz : MH}, p a0 a1 a2 a3 h = some (r, hz) → mm_M yX12_joins cX12_joins 5 (some .boolean) d [va_rf a0, .int a1, .int a2, .int a3] h (.inr (some (.int r))) hz)
def F_X12_joins_83 (p : PT_X12_joins) (k17 : Option Nat → Int32 → Int32 → Int32 → Int32 → MH → Option (Int32 × MH)) (l0 : Option Nat) (l1 : Int32) (l2 : Int32) (l3 : Int32) (l4 : Int32) (h : MH) : Option (Int32 × MH) := k17 l0 l1 l2 l3 (l4 + (1 : Int32)) h
set_option maxRecDepth 20000 in
set_option maxHeartbeats 4000000 in
theorem w_X12_joins_83 {d : Nat} {V : Nat → List (Nat × Value) → List Value → MH → Prop} {r : Int32} {hz : MH} {p : PT_X12_joins} {d0 : Nat} (hd0 : d0 + 1 ≤ d) (hp : PH_X12_joins p d0) {k17 : Option Nat → Int32 → Int32 → Int32 → Int32 → MH → Option (Int32 × MH)} (hd : 3 ≤ d) (C : mm_C d yX12_joins cX12_joins 5 (some .boolean) (.inr (some (.int r))) hz V) (q17 : ∀ (x0 : Option Nat) (x1 : Int32) (x2 : Int32) (x3 : Int32) (x4 : Int32) (h : MH), k17 x0 x1 x2 x3 x4 h = some (r, hz) → V 17 [(0, va_rf x0), (1, .int x1), (2, .int x2), (3, .int x3), (4, .int x4)] [] h) (l0 : Option Nat) (l1 : Int32) (l2 : Int32) (l3 : Int32) (l4 : Int32) (h : MH) (hK : F_X12_joins_83 p k17 l0 l1 l2 l3 l4 h = some (r, hz)) : V 83 [(0, va_rf l0), (1, .int l1), (2, .int l2), (3, .int l3), (4, .int l4)] [] h := by
  unfold F_X12_joins_83 at hK
  refine mm_iinc C (pc := 83) (v := (l4 + (1 : Int32))) (lv' := [(4, .int (l4 + (1 : Int32))), (0, va_rf l0), (1, .int l1), (2, .int l2), (3, .int l3)]) 4 dX12_joins_83 rfl rfl (by decide) rfl ?_
  refine mm_goto C (pc := 86) (tgt := 17) dX12_joins_86 (by decide) ?_
  refine mm_sub C [1, 2, 3, 4, 0] rfl ?_
  exact q17 _ _ _ _ _ _ hK
def F_X12_joins_17 (p : PT_X12_joins) : Nat → Option Nat → Int32 → Int32 → Int32 → Int32 → MH → Option (Int32 × MH)
  | 0 => fun _ _ _ _ _ _ => none
  | n + 1 => fun l0 l1 l2 l3 l4 h => (gR h l0 12 0).bind fun v20 => (aI h v20 0 (2 : Int32)).bind fun v24 => if v24 ≤ l4 then (rZ (0 : Int32) h) else (mm_b2 (F_X12_has l3 l4 h) fun v31 h31 => if v31 = 0 then (mm_b2 (cV h31 l0 12 (F_X12_told l0 l1 ((2 : Int32) * l2) h31)) fun v45 h45 => mm_b2 (cV h45 l0 12 (F_X12_told l0 l1 (((2 : Int32) * l2) + (1 : Int32)) h45)) fun v55 h55 => mm_b2 (cV h55 l0 12 (F_X12_reachesBoth l0 l4 v45 v55 h55)) fun v58 h58 => if v58 = 0 then (F_X12_joins_83 p (F_X12_joins_17 p n) l0 l1 l2 l3 l4 h58) else (mm_b2 (cV h58 l0 12 (p l0 l1 (l2 + (1 : Int32)) (l3 ||| ((1 : Int32) <<< (l4 &&& 31))) h58)) fun v75 h75 => if v75 = 0 then (F_X12_joins_83 p (F_X12_joins_17 p n) l0 l1 l2 l3 l4 h75) else (rZ (1 : Int32) h75))) else (F_X12_joins_83 p (F_X12_joins_17 p n) l0 l1 l2 l3 l4 h31))
set_option maxRecDepth 20000 in
set_option maxHeartbeats 4000000 in
theorem w_X12_joins_17 {d : Nat} {V : Nat → List (Nat × Value) → List Value → MH → Prop} {r : Int32} {hz : MH} {p : PT_X12_joins} {d0 : Nat} (hd0 : d0 + 1 ≤ d) (hp : PH_X12_joins p d0) (hd : 3 ≤ d) (C : mm_C d yX12_joins cX12_joins 5 (some .boolean) (.inr (some (.int r))) hz V) : ∀ (n : Nat) (l0 : Option Nat) (l1 : Int32) (l2 : Int32) (l3 : Int32) (l4 : Int32) (h : MH), F_X12_joins_17 p n l0 l1 l2 l3 l4 h = some (r, hz) → V 17 [(0, va_rf l0), (1, .int l1), (2, .int l2), (3, .int l3), (4, .int l4)] [] h := by
  intro n
  induction n with
  | zero => intro l0 l1 l2 l3 l4 h hK; cases hK
  | succ n ih =>
    intro l0 l1 l2 l3 l4 h hK
    replace hK : ((gR h l0 12 0).bind fun v20 => (aI h v20 0 (2 : Int32)).bind fun v24 => if v24 ≤ l4 then (rZ (0 : Int32) h) else (mm_b2 (F_X12_has l3 l4 h) fun v31 h31 => if v31 = 0 then (mm_b2 (cV h31 l0 12 (F_X12_told l0 l1 ((2 : Int32) * l2) h31)) fun v45 h45 => mm_b2 (cV h45 l0 12 (F_X12_told l0 l1 (((2 : Int32) * l2) + (1 : Int32)) h45)) fun v55 h55 => mm_b2 (cV h55 l0 12 (F_X12_reachesBoth l0 l4 v45 v55 h55)) fun v58 h58 => if v58 = 0 then (F_X12_joins_83 p (F_X12_joins_17 p n) l0 l1 l2 l3 l4 h58) else (mm_b2 (cV h58 l0 12 (p l0 l1 (l2 + (1 : Int32)) (l3 ||| ((1 : Int32) <<< (l4 &&& 31))) h58)) fun v75 h75 => if v75 = 0 then (F_X12_joins_83 p (F_X12_joins_17 p n) l0 l1 l2 l3 l4 h75) else (rZ (1 : Int32) h75))) else (F_X12_joins_83 p (F_X12_joins_17 p n) l0 l1 l2 l3 l4 h31))) = some (r, hz) := hK
    refine mm_iload C (pc := 17) 4 dX12_joins_17 rfl ?_
    refine mm_aload_n C (pc := 19) 0 dX12_joins_19 rfl ?_
    replace hK := mm_bd hK; obtain ⟨v20, e20, hK⟩ := hK
    refine mm_getr C (pc := 20) (k := 0) inGX12 rfl (by decide) wd_1999 dX12_joins_20 e20 ?_
    refine mm_iconst C (pc := 23) (v := (2 : Int32)) dX12_joins_23 (by decide) ?_
    replace hK := mm_bd hK; obtain ⟨v24, e24, hK⟩ := hK
    refine mm_iald C (pc := 24) dX12_joins_24 e24 ?_
    refine mm_icmp_ge C (pc := 25) (tgt := 89) dX12_joins_25 (by decide) (fun hc => ?_) (fun hc => ?_)
    · replace hK := mm_ip hc hK
      refine mm_iconst C (pc := 89) (v := (0 : Int32)) dX12_joins_89 (by decide) ?_
      replace hK := rZ_some hK; obtain ⟨hv90, hK⟩ := hK
      cases hK
      exact mm_zret C (pc := 90) rfl (mm_nrZ hv90) dX12_joins_90 rfl rfl
    · replace hK := mm_in hc hK
      refine mm_iload_n C (pc := 28) 3 dX12_joins_28 rfl ?_
      refine mm_iload C (pc := 29) 4 dX12_joins_29 rfl ?_
      replace hK := mm_b2s hK; obtain ⟨v31, h31, e31, hK⟩ := hK
      refine mm_callS C (pc := 31) (d1 := 1) (As := [.int l3, .int l4]) (st := []) (vk := (some (.int v31))) ((S_X12_has (by omega)) e31) tT_X12_has wd_2316 wd_2317 (by omega) (by decide) rfl (by simp [mm_crf, mm_cti, mm_ctl]) rfl dX12_joins_31 ?_
      show V _ _ (.int v31 :: _) _
      refine mm_if_ne C (pc := 34) (tgt := 83) dX12_joins_34 (by decide) (fun hc => ?_) (fun hc => ?_)
      · replace hK := mm_in hc hK
        exact w_X12_joins_83 hd0 hp hd C (fun z0 z1 z2 z3 z4 z5 hK => ih z0 z1 z2 z3 z4 z5 hK) _ _ _ _ _ _ hK
      · replace hK := mm_ip hc hK
        refine mm_aload_n C (pc := 37) 0 dX12_joins_37 rfl ?_
        refine mm_iload C (pc := 38) 4 dX12_joins_38 rfl ?_
        refine mm_aload_n C (pc := 40) 0 dX12_joins_40 rfl ?_
        refine mm_iload_n C (pc := 41) 1 dX12_joins_41 rfl ?_
        refine mm_iconst C (pc := 42) (v := (2 : Int32)) dX12_joins_42 (by decide) ?_
        refine mm_iload_n C (pc := 43) 2 dX12_joins_43 rfl ?_
        refine mm_imul C (pc := 44) dX12_joins_44 ?_
        replace hK := mm_b2s hK; obtain ⟨v45, h45, e45, hK⟩ := hK
        obtain ⟨o45, e45⟩ := cV_some e45
        refine mm_callV C (pc := 45) (d1 := 1) (As := [.int l1, .int ((2 : Int32) * l2)]) (st := [.int l4, va_rf l0]) (vk := (some (.int v45))) ((S_X12_told (by omega)) e45) tT_X12_told o45 (Or.inr ⟨_, rfl, rfl⟩) wd_2582 wd_2584 wd_124 (by omega) (by decide) rfl (by simp [mm_crf, mm_cti, mm_ctl]) rfl dX12_joins_45 ?_
        show V _ _ (.int v45 :: _) _
        refine mm_aload_n C (pc := 48) 0 dX12_joins_48 rfl ?_
        refine mm_iload_n C (pc := 49) 1 dX12_joins_49 rfl ?_
        refine mm_iconst C (pc := 50) (v := (2 : Int32)) dX12_joins_50 (by decide) ?_
        refine mm_iload_n C (pc := 51) 2 dX12_joins_51 rfl ?_
        refine mm_imul C (pc := 52) dX12_joins_52 ?_
        refine mm_iconst C (pc := 53) (v := (1 : Int32)) dX12_joins_53 (by decide) ?_
        refine mm_iadd C (pc := 54) dX12_joins_54 ?_
        replace hK := mm_b2s hK; obtain ⟨v55, h55, e55, hK⟩ := hK
        obtain ⟨o55, e55⟩ := cV_some e55
        refine mm_callV C (pc := 55) (d1 := 1) (As := [.int l1, .int (((2 : Int32) * l2) + (1 : Int32))]) (st := [.int v45, .int l4, va_rf l0]) (vk := (some (.int v55))) ((S_X12_told (by omega)) e55) tT_X12_told o55 (Or.inr ⟨_, rfl, rfl⟩) wd_2582 wd_2584 wd_124 (by omega) (by decide) rfl (by simp [mm_crf, mm_cti, mm_ctl]) rfl dX12_joins_55 ?_
        show V _ _ (.int v55 :: _) _
        replace hK := mm_b2s hK; obtain ⟨v58, h58, e58, hK⟩ := hK
        obtain ⟨o58, e58⟩ := cV_some e58
        refine mm_callV C (pc := 58) (d1 := 2) (As := [.int l4, .int v45, .int v55]) (st := []) (vk := (some (.int v58))) ((S_X12_reachesBoth (by omega)) e58) tT_X12_reachesBoth o58 (Or.inr ⟨_, rfl, rfl⟩) wd_2570 wd_2572 wd_122 (by omega) (by decide) rfl (by simp [mm_crf, mm_cti, mm_ctl]) rfl dX12_joins_58 ?_
        show V _ _ (.int v58 :: _) _
        refine mm_if_eq C (pc := 61) (tgt := 83) dX12_joins_61 (by decide) (fun hc => ?_) (fun hc => ?_)
        · replace hK := mm_ip hc hK
          exact w_X12_joins_83 hd0 hp hd C (fun z0 z1 z2 z3 z4 z5 hK => ih z0 z1 z2 z3 z4 z5 hK) _ _ _ _ _ _ hK
        · replace hK := mm_in hc hK
          refine mm_aload_n C (pc := 64) 0 dX12_joins_64 rfl ?_
          refine mm_iload_n C (pc := 65) 1 dX12_joins_65 rfl ?_
          refine mm_iload_n C (pc := 66) 2 dX12_joins_66 rfl ?_
          refine mm_iconst C (pc := 67) (v := (1 : Int32)) dX12_joins_67 (by decide) ?_
          refine mm_iadd C (pc := 68) dX12_joins_68 ?_
          refine mm_iload_n C (pc := 69) 3 dX12_joins_69 rfl ?_
          refine mm_iconst C (pc := 70) (v := (1 : Int32)) dX12_joins_70 (by decide) ?_
          refine mm_iload C (pc := 71) 4 dX12_joins_71 rfl ?_
          refine mm_ishl C (pc := 73) dX12_joins_73 ?_
          refine mm_ior C (pc := 74) dX12_joins_74 ?_
          replace hK := mm_b2s hK; obtain ⟨v75, h75, e75, hK⟩ := hK
          obtain ⟨o75, e75⟩ := cV_some e75
          refine mm_callV C (pc := 75) (d1 := d0) (As := [.int l1, .int (l2 + (1 : Int32)), .int (l3 ||| ((1 : Int32) <<< (l4 &&& 31)))]) (st := []) (vk := (some (.int v75))) ((hp _ (by omega) ) e75) tT_X12_joins o75 (Or.inr ⟨_, rfl, rfl⟩) wd_2586 wd_2588 wd_125 (by omega) (by decide) rfl (by simp [mm_crf, mm_cti, mm_ctl]) rfl dX12_joins_75 ?_
          show V _ _ (.int v75 :: _) _
          refine mm_if_eq C (pc := 78) (tgt := 83) dX12_joins_78 (by decide) (fun hc => ?_) (fun hc => ?_)
          · replace hK := mm_ip hc hK
            exact w_X12_joins_83 hd0 hp hd C (fun z0 z1 z2 z3 z4 z5 hK => ih z0 z1 z2 z3 z4 z5 hK) _ _ _ _ _ _ hK
          · replace hK := mm_in hc hK
            refine mm_iconst C (pc := 81) (v := (1 : Int32)) dX12_joins_81 (by decide) ?_
            replace hK := rZ_some hK; obtain ⟨hv82, hK⟩ := hK
            cases hK
            exact mm_zret C (pc := 82) rfl (mm_nrZ hv82) dX12_joins_82 rfl rfl
def F_X12_joins (p : PT_X12_joins) (a0 : Option Nat) (a1 : Int32) (a2 : Int32) (a3 : Int32) (h : MH) : Option (Int32 × MH) := (gR h a0 12 46).bind fun v4 => (aI h v4 0 a1).bind fun v8 => if ((2 : Int32) * a2) = v8 then (rZ (1 : Int32) h) else (F_X12_joins_17 p mm_N a0 a1 a2 a3 (0 : Int32) h)
set_option maxRecDepth 20000 in
set_option maxHeartbeats 4000000 in
theorem S_X12_joins {d : Nat} {p : PT_X12_joins} {d0 : Nat} (hd0 : d0 + 1 ≤ d) (hp : PH_X12_joins p d0) (hd : 3 ≤ d) {a0 : Option Nat} {a1 : Int32} {a2 : Int32} {a3 : Int32} {h : MH} {r : Int32} {hz : MH} (hK : F_X12_joins p a0 a1 a2 a3 h = some (r, hz)) : mm_M yX12_joins cX12_joins 5 (some .boolean) d [va_rf a0, .int a1, .int a2, .int a3] h (.inr (some (.int r))) hz := by
  refine mm_ofV (by decide +kernel) (by simp [lg_sl, mm_crf, mm_cti, mm_ctl]) (fun V C => ?_)
  rw [show lv_args 0 [va_rf a0, .int a1, .int a2, .int a3] = [(0, va_rf a0), (1, .int a1), (2, .int a2), (3, .int a3)] by simp [lv_args, mm_crf, mm_cti, mm_ctl]]
  unfold F_X12_joins at hK
  refine mm_iconst C (pc := 0) (v := (2 : Int32)) dX12_joins_0 (by decide) ?_
  refine mm_iload_n C (pc := 1) 2 dX12_joins_1 rfl ?_
  refine mm_imul C (pc := 2) dX12_joins_2 ?_
  refine mm_aload_n C (pc := 3) 0 dX12_joins_3 rfl ?_
  replace hK := mm_bd hK; obtain ⟨v4, e4, hK⟩ := hK
  refine mm_getr C (pc := 4) (k := 46) inGX12 rfl (by decide) wd_2045 dX12_joins_4 e4 ?_
  refine mm_iload_n C (pc := 7) 1 dX12_joins_7 rfl ?_
  replace hK := mm_bd hK; obtain ⟨v8, e8, hK⟩ := hK
  refine mm_iald C (pc := 8) dX12_joins_8 e8 ?_
  refine mm_icmp_ne C (pc := 9) (tgt := 14) dX12_joins_9 (by decide) (fun hc => ?_) (fun hc => ?_)
  · replace hK := mm_in hc hK
    refine mm_iconst C (pc := 14) (v := (0 : Int32)) dX12_joins_14 (by decide) ?_
    refine mm_istore C (pc := 15) (i := 4) (lv' := [(4, .int (0 : Int32)), (0, va_rf a0), (1, .int a1), (2, .int a2), (3, .int a3)]) dX12_joins_15 (by decide) rfl ?_
    refine mm_sub C [1, 2, 3, 4, 0] rfl ?_
    exact w_X12_joins_17 hd0 hp hd C _ _ _ _ _ _ _ hK
  · replace hK := mm_ip hc hK
    refine mm_iconst C (pc := 12) (v := (1 : Int32)) dX12_joins_12 (by decide) ?_
    replace hK := rZ_some hK; obtain ⟨hv13, hK⟩ := hK
    cases hK
    exact mm_zret C (pc := 13) rfl (mm_nrZ hv13) dX12_joins_13 rfl rfl
def G_X12_joins : Nat → PT_X12_joins
  | 0 => ((fun _ _ _ _ _ => none))
  | n + 1 => ((fun a0 a1 a2 a3 h => F_X12_joins (G_X12_joins n) a0 a1 a2 a3 h))
theorem S_G_X12_joins : ∀ n : Nat, PH_X12_joins (G_X12_joins n) (3 + n) := by
  intro n
  induction n with
  | zero => exact (fun d hd _ _ _ _ _ _ _ hK => (by cases hK))
  | succ n ih => exact (fun d hd _ _ _ _ _ _ _ hK => S_X12_joins (p := G_X12_joins n) (d0 := 3 + n) (by omega) ih (by omega) hK)
theorem wd_2581 : Cond.code yX12_twosFault cX12_twosFault 5 (some .int) ∈ lw_good := mm_wd 2581 (by decide +kernel) (by decide +kernel)
theorem tT_X12_twosFault : mm_T yX12_twosFault cX12_twosFault 5 (some .int) 1 := ⟨wd_2581, wd_170, by decide +kernel, by decide +kernel, by decide +kernel, by decide +kernel⟩
theorem wd_2578 : Cond.methodLink RX12 466 yX12_twosFault ∈ lw_good := mm_wd 2578 (by decide +kernel) (by decide +kernel)
theorem wd_2580 : Cond.instanceMethod yX12_twosFault ∈ lw_good := mm_wd 2580 (by decide +kernel) (by decide +kernel)
theorem wd_123 : Cond.selects RX12 yX12_twosFault yX12_twosFault ∈ lw_good := mm_wd 123 (by decide +kernel) (by decide +kernel)
def F_X12_atOnce_87 (s0 : Int32) (h : MH) : Option (Int32 × MH) := rZ s0 h
set_option maxRecDepth 20000 in
set_option maxHeartbeats 4000000 in
theorem w_X12_atOnce_87 {d : Nat} {V : Nat → List (Nat × Value) → List Value → MH → Prop} {r : Int32} {hz : MH} (hd : 68 ≤ d) (C : mm_C d yX12_atOnce cX12_atOnce 4 (some .boolean) (.inr (some (.int r))) hz V) (s0 : Int32) (h : MH) (hK : F_X12_atOnce_87 s0 h = some (r, hz)) : V 87 [] [.int s0] h := by
  unfold F_X12_atOnce_87 at hK
  replace hK := rZ_some hK; obtain ⟨hv87, hK⟩ := hK
  cases hK
  exact mm_zret C (pc := 87) rfl (mm_nrZ hv87) dX12_atOnce_87 rfl rfl
def F_X12_atOnce_86 (h : MH) : Option (Int32 × MH) := F_X12_atOnce_87 (0 : Int32) h
set_option maxRecDepth 20000 in
set_option maxHeartbeats 4000000 in
theorem w_X12_atOnce_86 {d : Nat} {V : Nat → List (Nat × Value) → List Value → MH → Prop} {r : Int32} {hz : MH} (hd : 68 ≤ d) (C : mm_C d yX12_atOnce cX12_atOnce 4 (some .boolean) (.inr (some (.int r))) hz V) (h : MH) (hK : F_X12_atOnce_86  h = some (r, hz)) : V 86 [] [] h := by
  unfold F_X12_atOnce_86 at hK
  refine mm_iconst C (pc := 86) (v := (0 : Int32)) dX12_atOnce_86 (by decide) ?_
  exact w_X12_atOnce_87 hd C _ _ hK
def F_X12_atOnce_65 (l0 : Option Nat) (l1 : Int32) (h : MH) : Option (Int32 × MH) := (gI h l0 12 4).bind fun v66 => if v66 = 0 then (mm_b2 (cV h l0 12 ((G_X12_joins 64) l0 l1 (0 : Int32) (0 : Int32) h)) fun v76 h76 => if v76 = 0 then (F_X12_atOnce_86 h76) else (F_X12_atOnce_87 (1 : Int32) h76)) else (F_X12_atOnce_86 h)
set_option maxRecDepth 20000 in
set_option maxHeartbeats 4000000 in
theorem w_X12_atOnce_65 {d : Nat} {V : Nat → List (Nat × Value) → List Value → MH → Prop} {r : Int32} {hz : MH} (hd : 68 ≤ d) (C : mm_C d yX12_atOnce cX12_atOnce 4 (some .boolean) (.inr (some (.int r))) hz V) (l0 : Option Nat) (l1 : Int32) (h : MH) (hK : F_X12_atOnce_65 l0 l1 h = some (r, hz)) : V 65 [(0, va_rf l0), (1, .int l1)] [] h := by
  unfold F_X12_atOnce_65 at hK
  refine mm_aload_n C (pc := 65) 0 dX12_atOnce_65 rfl ?_
  replace hK := mm_bd hK; obtain ⟨v66, e66, hK⟩ := hK
  refine mm_geti C (pc := 66) (k := 4) inGX12 rfl (by decide) wd_2003 dX12_atOnce_66 e66 ?_
  refine mm_if_ne C (pc := 69) (tgt := 86) dX12_atOnce_69 (by decide) (fun hc => ?_) (fun hc => ?_)
  · replace hK := mm_in hc hK
    refine mm_sub C [] rfl ?_
    exact w_X12_atOnce_86 hd C _ hK
  · replace hK := mm_ip hc hK
    refine mm_aload_n C (pc := 72) 0 dX12_atOnce_72 rfl ?_
    refine mm_iload_n C (pc := 73) 1 dX12_atOnce_73 rfl ?_
    refine mm_iconst C (pc := 74) (v := (0 : Int32)) dX12_atOnce_74 (by decide) ?_
    refine mm_iconst C (pc := 75) (v := (0 : Int32)) dX12_atOnce_75 (by decide) ?_
    replace hK := mm_b2s hK; obtain ⟨v76, h76, e76, hK⟩ := hK
    obtain ⟨o76, e76⟩ := cV_some e76
    refine mm_callV C (pc := 76) (d1 := 67) (As := [.int l1, .int (0 : Int32), .int (0 : Int32)]) (st := []) (vk := (some (.int v76))) (((S_G_X12_joins 64) _ (by omega)) e76) tT_X12_joins o76 (Or.inr ⟨_, rfl, rfl⟩) wd_2586 wd_2588 wd_125 (by omega) (by decide) rfl (by simp [mm_crf, mm_cti, mm_ctl]) rfl dX12_atOnce_76 ?_
    show V _ _ (.int v76 :: _) _
    refine mm_if_eq C (pc := 79) (tgt := 86) dX12_atOnce_79 (by decide) (fun hc => ?_) (fun hc => ?_)
    · replace hK := mm_ip hc hK
      refine mm_sub C [] rfl ?_
      exact w_X12_atOnce_86 hd C _ hK
    · replace hK := mm_in hc hK
      refine mm_iconst C (pc := 82) (v := (1 : Int32)) dX12_atOnce_82 (by decide) ?_
      refine mm_goto C (pc := 83) (tgt := 87) dX12_atOnce_83 (by decide) ?_
      refine mm_sub C [] rfl ?_
      exact w_X12_atOnce_87 hd C _ _ hK
def F_X12_atOnce_48 (k13 : Option Nat → Int32 → Int32 → Int32 → MH → Option (Int32 × MH)) (l0 : Option Nat) (l1 : Int32) (l2 : Int32) (l3 : Int32) (h : MH) : Option (Int32 × MH) := mm_b2 (cV h l0 12 (F_X12_told l0 l1 l3 h)) fun v53 h53 => k13 l0 l1 (l2 ||| ((1 : Int32) <<< (v53 &&& 31))) (l3 + (1 : Int32)) h53
set_option maxRecDepth 20000 in
set_option maxHeartbeats 4000000 in
theorem w_X12_atOnce_48 {d : Nat} {V : Nat → List (Nat × Value) → List Value → MH → Prop} {r : Int32} {hz : MH} {k13 : Option Nat → Int32 → Int32 → Int32 → MH → Option (Int32 × MH)} (hd : 68 ≤ d) (C : mm_C d yX12_atOnce cX12_atOnce 4 (some .boolean) (.inr (some (.int r))) hz V) (q13 : ∀ (x0 : Option Nat) (x1 : Int32) (x2 : Int32) (x3 : Int32) (h : MH), k13 x0 x1 x2 x3 h = some (r, hz) → V 13 [(0, va_rf x0), (1, .int x1), (2, .int x2), (3, .int x3)] [] h) (l0 : Option Nat) (l1 : Int32) (l2 : Int32) (l3 : Int32) (h : MH) (hK : F_X12_atOnce_48 k13 l0 l1 l2 l3 h = some (r, hz)) : V 48 [(0, va_rf l0), (1, .int l1), (2, .int l2), (3, .int l3)] [] h := by
  unfold F_X12_atOnce_48 at hK
  refine mm_iload_n C (pc := 48) 2 dX12_atOnce_48 rfl ?_
  refine mm_iconst C (pc := 49) (v := (1 : Int32)) dX12_atOnce_49 (by decide) ?_
  refine mm_aload_n C (pc := 50) 0 dX12_atOnce_50 rfl ?_
  refine mm_iload_n C (pc := 51) 1 dX12_atOnce_51 rfl ?_
  refine mm_iload_n C (pc := 52) 3 dX12_atOnce_52 rfl ?_
  replace hK := mm_b2s hK; obtain ⟨v53, h53, e53, hK⟩ := hK
  obtain ⟨o53, e53⟩ := cV_some e53
  refine mm_callV C (pc := 53) (d1 := 1) (As := [.int l1, .int l3]) (st := [.int (1 : Int32), .int l2]) (vk := (some (.int v53))) ((S_X12_told (by omega)) e53) tT_X12_told o53 (Or.inr ⟨_, rfl, rfl⟩) wd_2582 wd_2584 wd_124 (by omega) (by decide) rfl (by simp [mm_crf, mm_cti, mm_ctl]) rfl dX12_atOnce_53 ?_
  show V _ _ (.int v53 :: _) _
  refine mm_ishl C (pc := 56) dX12_atOnce_56 ?_
  refine mm_ior C (pc := 57) dX12_atOnce_57 ?_
  refine mm_istore_n C (pc := 58) (i := 2) (lv' := [(2, .int (l2 ||| ((1 : Int32) <<< (v53 &&& 31)))), (0, va_rf l0), (1, .int l1), (3, .int l3)]) dX12_atOnce_58 rfl (by decide) rfl ?_
  refine mm_iinc C (pc := 59) (v := (l3 + (1 : Int32))) (lv' := [(3, .int (l3 + (1 : Int32))), (2, .int (l2 ||| ((1 : Int32) <<< (v53 &&& 31)))), (0, va_rf l0), (1, .int l1)]) 3 dX12_atOnce_59 rfl rfl (by decide) rfl ?_
  refine mm_goto C (pc := 62) (tgt := 13) dX12_atOnce_62 (by decide) ?_
  refine mm_sub C [2, 3, 1, 0] rfl ?_
  exact q13 _ _ _ _ _ hK
def F_X12_atOnce_13 : Nat → Option Nat → Int32 → Int32 → Int32 → MH → Option (Int32 × MH)
  | 0 => fun _ _ _ _ _ => none
  | n + 1 => fun l0 l1 l2 l3 h => (gI h l0 12 4).bind fun v14 => if v14 = 0 then ((gR h l0 12 46).bind fun v22 => (aI h v22 0 l1).bind fun v26 => if v26 ≤ l3 then (F_X12_atOnce_65 l0 l1 h) else (mm_b2 (cV h l0 12 (F_X12_told l0 l1 l3 h)) fun v34 h34 => mm_b2 (F_X12_has l2 v34 h34) fun v37 h37 => if v37 = 0 then (F_X12_atOnce_48 (F_X12_atOnce_13 n) l0 l1 l2 l3 h37) else ((pI h37 l0 12 4 (3 : Int32)).bind fun h45 => F_X12_atOnce_48 (F_X12_atOnce_13 n) l0 l1 l2 l3 h45))) else (F_X12_atOnce_65 l0 l1 h)
set_option maxRecDepth 20000 in
set_option maxHeartbeats 4000000 in
theorem w_X12_atOnce_13 {d : Nat} {V : Nat → List (Nat × Value) → List Value → MH → Prop} {r : Int32} {hz : MH} (hd : 68 ≤ d) (C : mm_C d yX12_atOnce cX12_atOnce 4 (some .boolean) (.inr (some (.int r))) hz V) : ∀ (n : Nat) (l0 : Option Nat) (l1 : Int32) (l2 : Int32) (l3 : Int32) (h : MH), F_X12_atOnce_13 n l0 l1 l2 l3 h = some (r, hz) → V 13 [(0, va_rf l0), (1, .int l1), (2, .int l2), (3, .int l3)] [] h := by
  intro n
  induction n with
  | zero => intro l0 l1 l2 l3 h hK; cases hK
  | succ n ih =>
    intro l0 l1 l2 l3 h hK
    replace hK : ((gI h l0 12 4).bind fun v14 => if v14 = 0 then ((gR h l0 12 46).bind fun v22 => (aI h v22 0 l1).bind fun v26 => if v26 ≤ l3 then (F_X12_atOnce_65 l0 l1 h) else (mm_b2 (cV h l0 12 (F_X12_told l0 l1 l3 h)) fun v34 h34 => mm_b2 (F_X12_has l2 v34 h34) fun v37 h37 => if v37 = 0 then (F_X12_atOnce_48 (F_X12_atOnce_13 n) l0 l1 l2 l3 h37) else ((pI h37 l0 12 4 (3 : Int32)).bind fun h45 => F_X12_atOnce_48 (F_X12_atOnce_13 n) l0 l1 l2 l3 h45))) else (F_X12_atOnce_65 l0 l1 h)) = some (r, hz) := hK
    refine mm_aload_n C (pc := 13) 0 dX12_atOnce_13 rfl ?_
    replace hK := mm_bd hK; obtain ⟨v14, e14, hK⟩ := hK
    refine mm_geti C (pc := 14) (k := 4) inGX12 rfl (by decide) wd_2003 dX12_atOnce_14 e14 ?_
    refine mm_if_ne C (pc := 17) (tgt := 65) dX12_atOnce_17 (by decide) (fun hc => ?_) (fun hc => ?_)
    · replace hK := mm_in hc hK
      refine mm_sub C [0, 1] rfl ?_
      exact w_X12_atOnce_65 hd C _ _ _ hK
    · replace hK := mm_ip hc hK
      refine mm_iload_n C (pc := 20) 3 dX12_atOnce_20 rfl ?_
      refine mm_aload_n C (pc := 21) 0 dX12_atOnce_21 rfl ?_
      replace hK := mm_bd hK; obtain ⟨v22, e22, hK⟩ := hK
      refine mm_getr C (pc := 22) (k := 46) inGX12 rfl (by decide) wd_2045 dX12_atOnce_22 e22 ?_
      refine mm_iload_n C (pc := 25) 1 dX12_atOnce_25 rfl ?_
      replace hK := mm_bd hK; obtain ⟨v26, e26, hK⟩ := hK
      refine mm_iald C (pc := 26) dX12_atOnce_26 e26 ?_
      refine mm_icmp_ge C (pc := 27) (tgt := 65) dX12_atOnce_27 (by decide) (fun hc => ?_) (fun hc => ?_)
      · replace hK := mm_ip hc hK
        refine mm_sub C [0, 1] rfl ?_
        exact w_X12_atOnce_65 hd C _ _ _ hK
      · replace hK := mm_in hc hK
        refine mm_iload_n C (pc := 30) 2 dX12_atOnce_30 rfl ?_
        refine mm_aload_n C (pc := 31) 0 dX12_atOnce_31 rfl ?_
        refine mm_iload_n C (pc := 32) 1 dX12_atOnce_32 rfl ?_
        refine mm_iload_n C (pc := 33) 3 dX12_atOnce_33 rfl ?_
        replace hK := mm_b2s hK; obtain ⟨v34, h34, e34, hK⟩ := hK
        obtain ⟨o34, e34⟩ := cV_some e34
        refine mm_callV C (pc := 34) (d1 := 1) (As := [.int l1, .int l3]) (st := [.int l2]) (vk := (some (.int v34))) ((S_X12_told (by omega)) e34) tT_X12_told o34 (Or.inr ⟨_, rfl, rfl⟩) wd_2582 wd_2584 wd_124 (by omega) (by decide) rfl (by simp [mm_crf, mm_cti, mm_ctl]) rfl dX12_atOnce_34 ?_
        show V _ _ (.int v34 :: _) _
        replace hK := mm_b2s hK; obtain ⟨v37, h37, e37, hK⟩ := hK
        refine mm_callS C (pc := 37) (d1 := 1) (As := [.int l2, .int v34]) (st := []) (vk := (some (.int v37))) ((S_X12_has (by omega)) e37) tT_X12_has wd_2316 wd_2317 (by omega) (by decide) rfl (by simp [mm_crf, mm_cti, mm_ctl]) rfl dX12_atOnce_37 ?_
        show V _ _ (.int v37 :: _) _
        refine mm_if_eq C (pc := 40) (tgt := 48) dX12_atOnce_40 (by decide) (fun hc => ?_) (fun hc => ?_)
        · replace hK := mm_ip hc hK
          exact w_X12_atOnce_48 hd C (fun z0 z1 z2 z3 z4 hK => ih z0 z1 z2 z3 z4 hK) _ _ _ _ _ hK
        · replace hK := mm_in hc hK
          refine mm_aload_n C (pc := 43) 0 dX12_atOnce_43 rfl ?_
          refine mm_iconst C (pc := 44) (v := (3 : Int32)) dX12_atOnce_44 (by decide) ?_
          replace hK := mm_bd hK; obtain ⟨h45, e45, hK⟩ := hK
          refine mm_puti C (pc := 45) (k := 4) false (fun z => by cases z) inGX12 tyX12 tyX12_ok nmX12 rfl (by decide) wd_2003 rfl rfl dX12_atOnce_45 e45 ?_
          exact w_X12_atOnce_48 hd C (fun z0 z1 z2 z3 z4 hK => ih z0 z1 z2 z3 z4 hK) _ _ _ _ _ hK
def F_X12_atOnce (a0 : Option Nat) (a1 : Int32) (h : MH) : Option (Int32 × MH) := mm_b2 (cV h a0 12 (F_X12_twosFault a0 a1 h)) fun v3 h3 => (pI h3 a0 12 4 v3).bind fun h6 => F_X12_atOnce_13 mm_N a0 a1 (0 : Int32) (0 : Int32) h6
set_option maxRecDepth 20000 in
set_option maxHeartbeats 4000000 in
theorem S_X12_atOnce {d : Nat} (hd : 68 ≤ d) {a0 : Option Nat} {a1 : Int32} {h : MH} {r : Int32} {hz : MH} (hK : F_X12_atOnce a0 a1 h = some (r, hz)) : mm_M yX12_atOnce cX12_atOnce 4 (some .boolean) d [va_rf a0, .int a1] h (.inr (some (.int r))) hz := by
  refine mm_ofV (by decide +kernel) (by simp [lg_sl, mm_crf, mm_cti, mm_ctl]) (fun V C => ?_)
  rw [show lv_args 0 [va_rf a0, .int a1] = [(0, va_rf a0), (1, .int a1)] by simp [lv_args, mm_crf, mm_cti, mm_ctl]]
  unfold F_X12_atOnce at hK
  refine mm_aload_n C (pc := 0) 0 dX12_atOnce_0 rfl ?_
  refine mm_aload_n C (pc := 1) 0 dX12_atOnce_1 rfl ?_
  refine mm_iload_n C (pc := 2) 1 dX12_atOnce_2 rfl ?_
  replace hK := mm_b2s hK; obtain ⟨v3, h3, e3, hK⟩ := hK
  obtain ⟨o3, e3⟩ := cV_some e3
  refine mm_callV C (pc := 3) (d1 := 4) (As := [.int a1]) (st := [va_rf a0]) (vk := (some (.int v3))) ((S_X12_twosFault (by omega)) e3) tT_X12_twosFault o3 (Or.inr ⟨_, rfl, rfl⟩) wd_2578 wd_2580 wd_123 (by omega) (by decide) rfl (by simp [mm_crf, mm_cti, mm_ctl]) rfl dX12_atOnce_3 ?_
  show V _ _ (.int v3 :: _) _
  replace hK := mm_bd hK; obtain ⟨h6, e6, hK⟩ := hK
  refine mm_puti C (pc := 6) (k := 4) false (fun z => by cases z) inGX12 tyX12 tyX12_ok nmX12 rfl (by decide) wd_2003 rfl rfl dX12_atOnce_6 e6 ?_
  refine mm_iconst C (pc := 9) (v := (0 : Int32)) dX12_atOnce_9 (by decide) ?_
  refine mm_istore_n C (pc := 10) (i := 2) (lv' := [(2, .int (0 : Int32)), (0, va_rf a0), (1, .int a1)]) dX12_atOnce_10 rfl (by decide) rfl ?_
  refine mm_iconst C (pc := 11) (v := (0 : Int32)) dX12_atOnce_11 (by decide) ?_
  refine mm_istore_n C (pc := 12) (i := 3) (lv' := [(3, .int (0 : Int32)), (2, .int (0 : Int32)), (0, va_rf a0), (1, .int a1)]) dX12_atOnce_12 rfl (by decide) rfl ?_
  refine mm_sub C [2, 3, 1, 0] rfl ?_
  exact w_X12_atOnce_13 hd C _ _ _ _ _ _ hK
def F_X12_allAreOn_95 (s0 : Int32) (h : MH) : Option (Int32 × MH) := rZ s0 h
set_option maxRecDepth 20000 in
set_option maxHeartbeats 4000000 in
theorem w_X12_allAreOn_95 {d : Nat} {V : Nat → List (Nat × Value) → List Value → MH → Prop} {r : Int32} {hz : MH} (hd : 8 ≤ d) (C : mm_C d yX12_allAreOn cX12_allAreOn 5 (some .boolean) (.inr (some (.int r))) hz V) (s0 : Int32) (h : MH) (hK : F_X12_allAreOn_95 s0 h = some (r, hz)) : V 95 [] [.int s0] h := by
  unfold F_X12_allAreOn_95 at hK
  replace hK := rZ_some hK; obtain ⟨hv95, hK⟩ := hK
  cases hK
  exact mm_zret C (pc := 95) rfl (mm_nrZ hv95) dX12_allAreOn_95 rfl rfl
def F_X12_allAreOn_78 (l0 : Option Nat) (l1 : Int32) (l2 : Int32) (h : MH) : Option (Int32 × MH) := (cV h l0 12 (F_X12_putsBack l0 h)).bind fun h79 => mm_b2 (F_X12_size l2 h79) fun v83 h83 => if v83 = l1 then (F_X12_allAreOn_95 (1 : Int32) h83) else (F_X12_allAreOn_95 (0 : Int32) h83)
set_option maxRecDepth 20000 in
set_option maxHeartbeats 4000000 in
theorem w_X12_allAreOn_78 {d : Nat} {V : Nat → List (Nat × Value) → List Value → MH → Prop} {r : Int32} {hz : MH} (hd : 8 ≤ d) (C : mm_C d yX12_allAreOn cX12_allAreOn 5 (some .boolean) (.inr (some (.int r))) hz V) (l0 : Option Nat) (l1 : Int32) (l2 : Int32) (h : MH) (hK : F_X12_allAreOn_78 l0 l1 l2 h = some (r, hz)) : V 78 [(0, va_rf l0), (1, .int l1), (2, .int l2)] [] h := by
  unfold F_X12_allAreOn_78 at hK
  refine mm_aload_n C (pc := 78) 0 dX12_allAreOn_78 rfl ?_
  replace hK := mm_bd hK; obtain ⟨h79, e79, hK⟩ := hK
  obtain ⟨o79, e79⟩ := cV_some e79
  refine mm_callV C (pc := 79) (d1 := 1) (As := []) (st := []) (vk := none) ((S_X12_putsBack (by omega)) e79) tT_X12_putsBack o79 (Or.inr ⟨_, rfl, rfl⟩) wd_2469 wd_2471 wd_110 (by omega) (by decide) rfl (by simp [mm_crf, mm_cti, mm_ctl]) rfl dX12_allAreOn_79 ?_
  show V _ _ [] _
  refine mm_iload_n C (pc := 82) 2 dX12_allAreOn_82 rfl ?_
  replace hK := mm_b2s hK; obtain ⟨v83, h83, e83, hK⟩ := hK
  refine mm_callS C (pc := 83) (d1 := 1) (As := [.int l2]) (st := []) (vk := (some (.int v83))) ((S_X12_size (by omega)) e83) tT_X12_size wd_2424 wd_2425 (by omega) (by decide) rfl (by simp [mm_crf, mm_cti, mm_ctl]) rfl dX12_allAreOn_83 ?_
  show V _ _ (.int v83 :: _) _
  refine mm_iload_n C (pc := 86) 1 dX12_allAreOn_86 rfl ?_
  refine mm_icmp_ne C (pc := 87) (tgt := 94) dX12_allAreOn_87 (by decide) (fun hc => ?_) (fun hc => ?_)
  · replace hK := mm_in hc hK
    refine mm_iconst C (pc := 94) (v := (0 : Int32)) dX12_allAreOn_94 (by decide) ?_
    refine mm_sub C [] rfl ?_
    exact w_X12_allAreOn_95 hd C _ _ hK
  · replace hK := mm_ip hc hK
    refine mm_iconst C (pc := 90) (v := (1 : Int32)) dX12_allAreOn_90 (by decide) ?_
    refine mm_goto C (pc := 91) (tgt := 95) dX12_allAreOn_91 (by decide) ?_
    refine mm_sub C [] rfl ?_
    exact w_X12_allAreOn_95 hd C _ _ hK
def F_X12_allAreOn_64 (k8 : Option Nat → Int32 → Int32 → Int32 → MH → Option (Int32 × MH)) (k30 : Option Nat → Int32 → Int32 → Int32 → Int32 → MH → Option (Int32 × MH)) (l0 : Option Nat) (l1 : Int32) (l3 : Int32) (l4 : Int32) (s0 : Int32) (s1 : Int32) (h : MH) : Option (Int32 × MH) := k30 l0 l1 (s1 ||| s0) l3 (l4 + (1 : Int32)) h
set_option maxRecDepth 20000 in
set_option maxHeartbeats 4000000 in
theorem w_X12_allAreOn_64 {d : Nat} {V : Nat → List (Nat × Value) → List Value → MH → Prop} {r : Int32} {hz : MH} {k8 : Option Nat → Int32 → Int32 → Int32 → MH → Option (Int32 × MH)} {k30 : Option Nat → Int32 → Int32 → Int32 → Int32 → MH → Option (Int32 × MH)} (hd : 8 ≤ d) (C : mm_C d yX12_allAreOn cX12_allAreOn 5 (some .boolean) (.inr (some (.int r))) hz V) (q8 : ∀ (x0 : Option Nat) (x1 : Int32) (x2 : Int32) (x3 : Int32) (h : MH), k8 x0 x1 x2 x3 h = some (r, hz) → V 8 [(0, va_rf x0), (1, .int x1), (2, .int x2), (3, .int x3)] [] h) (q30 : ∀ (x0 : Option Nat) (x1 : Int32) (x2 : Int32) (x3 : Int32) (x4 : Int32) (h : MH), k30 x0 x1 x2 x3 x4 h = some (r, hz) → V 30 [(0, va_rf x0), (1, .int x1), (2, .int x2), (3, .int x3), (4, .int x4)] [] h) (l0 : Option Nat) (l1 : Int32) (l3 : Int32) (l4 : Int32) (s0 : Int32) (s1 : Int32) (h : MH) (hK : F_X12_allAreOn_64 k8 k30 l0 l1 l3 l4 s0 s1 h = some (r, hz)) : V 64 [(0, va_rf l0), (1, .int l1), (3, .int l3), (4, .int l4)] [.int s0, .int s1] h := by
  unfold F_X12_allAreOn_64 at hK
  refine mm_ior C (pc := 64) dX12_allAreOn_64 ?_
  refine mm_istore_n C (pc := 65) (i := 2) (lv' := [(2, .int (s1 ||| s0)), (0, va_rf l0), (1, .int l1), (3, .int l3), (4, .int l4)]) dX12_allAreOn_65 rfl (by decide) rfl ?_
  refine mm_iinc C (pc := 66) (v := (l4 + (1 : Int32))) (lv' := [(4, .int (l4 + (1 : Int32))), (2, .int (s1 ||| s0)), (0, va_rf l0), (1, .int l1), (3, .int l3)]) 4 dX12_allAreOn_66 rfl rfl (by decide) rfl ?_
  refine mm_goto C (pc := 69) (tgt := 30) dX12_allAreOn_69 (by decide) ?_
  refine mm_sub C [2, 3, 1, 4, 0] rfl ?_
  exact q30 _ _ _ _ _ _ hK
def F_X12_allAreOn_30 (k8 : Option Nat → Int32 → Int32 → Int32 → MH → Option (Int32 × MH)) : Nat → Option Nat → Int32 → Int32 → Int32 → Int32 → MH → Option (Int32 × MH)
  | 0 => fun _ _ _ _ _ _ => none
  | n + 1 => fun l0 l1 l2 l3 l4 h => if l1 ≤ l4 then (k8 l0 l1 l2 (l3 + (1 : Int32)) h) else ((gR h l0 12 0).bind fun v38 => (gR h l0 12 31).bind fun v44 => (aI h v44 0 l4).bind fun v49 => (aI h v38 0 ((18 : Int32) + v49)).bind fun v51 => if v51 = ((-1) : Int32) then (F_X12_allAreOn_64 k8 (F_X12_allAreOn_30 k8 n) l0 l1 l3 l4 (0 : Int32) l2 h) else (F_X12_allAreOn_64 k8 (F_X12_allAreOn_30 k8 n) l0 l1 l3 l4 ((1 : Int32) <<< (l4 &&& 31)) l2 h))
set_option maxRecDepth 20000 in
set_option maxHeartbeats 4000000 in
theorem w_X12_allAreOn_30 {d : Nat} {V : Nat → List (Nat × Value) → List Value → MH → Prop} {r : Int32} {hz : MH} {k8 : Option Nat → Int32 → Int32 → Int32 → MH → Option (Int32 × MH)} (hd : 8 ≤ d) (C : mm_C d yX12_allAreOn cX12_allAreOn 5 (some .boolean) (.inr (some (.int r))) hz V) (q8 : ∀ (x0 : Option Nat) (x1 : Int32) (x2 : Int32) (x3 : Int32) (h : MH), k8 x0 x1 x2 x3 h = some (r, hz) → V 8 [(0, va_rf x0), (1, .int x1), (2, .int x2), (3, .int x3)] [] h) : ∀ (n : Nat) (l0 : Option Nat) (l1 : Int32) (l2 : Int32) (l3 : Int32) (l4 : Int32) (h : MH), F_X12_allAreOn_30 k8 n l0 l1 l2 l3 l4 h = some (r, hz) → V 30 [(0, va_rf l0), (1, .int l1), (2, .int l2), (3, .int l3), (4, .int l4)] [] h := by
  intro n
  induction n with
  | zero => intro l0 l1 l2 l3 l4 h hK; cases hK
  | succ n ih =>
    intro l0 l1 l2 l3 l4 h hK
    replace hK : (if l1 ≤ l4 then (k8 l0 l1 l2 (l3 + (1 : Int32)) h) else ((gR h l0 12 0).bind fun v38 => (gR h l0 12 31).bind fun v44 => (aI h v44 0 l4).bind fun v49 => (aI h v38 0 ((18 : Int32) + v49)).bind fun v51 => if v51 = ((-1) : Int32) then (F_X12_allAreOn_64 k8 (F_X12_allAreOn_30 k8 n) l0 l1 l3 l4 (0 : Int32) l2 h) else (F_X12_allAreOn_64 k8 (F_X12_allAreOn_30 k8 n) l0 l1 l3 l4 ((1 : Int32) <<< (l4 &&& 31)) l2 h))) = some (r, hz) := hK
    refine mm_iload C (pc := 30) 4 dX12_allAreOn_30 rfl ?_
    refine mm_iload_n C (pc := 32) 1 dX12_allAreOn_32 rfl ?_
    refine mm_icmp_ge C (pc := 33) (tgt := 72) dX12_allAreOn_33 (by decide) (fun hc => ?_) (fun hc => ?_)
    · replace hK := mm_ip hc hK
      refine mm_iinc C (pc := 72) (v := (l3 + (1 : Int32))) (lv' := [(3, .int (l3 + (1 : Int32))), (0, va_rf l0), (1, .int l1), (2, .int l2), (4, .int l4)]) 3 dX12_allAreOn_72 rfl rfl (by decide) rfl ?_
      refine mm_goto C (pc := 75) (tgt := 8) dX12_allAreOn_75 (by decide) ?_
      refine mm_sub C [1, 2, 3, 0] rfl ?_
      exact q8 _ _ _ _ _ hK
    · replace hK := mm_in hc hK
      refine mm_iload_n C (pc := 36) 2 dX12_allAreOn_36 rfl ?_
      refine mm_aload_n C (pc := 37) 0 dX12_allAreOn_37 rfl ?_
      replace hK := mm_bd hK; obtain ⟨v38, e38, hK⟩ := hK
      refine mm_getr C (pc := 38) (k := 0) inGX12 rfl (by decide) wd_1999 dX12_allAreOn_38 e38 ?_
      refine mm_bipush C (pc := 41) (v := (18 : Int32)) dX12_allAreOn_41 (by decide) ?_
      refine mm_aload_n C (pc := 43) 0 dX12_allAreOn_43 rfl ?_
      replace hK := mm_bd hK; obtain ⟨v44, e44, hK⟩ := hK
      refine mm_getr C (pc := 44) (k := 31) inGX12 rfl (by decide) wd_2030 dX12_allAreOn_44 e44 ?_
      refine mm_iload C (pc := 47) 4 dX12_allAreOn_47 rfl ?_
      replace hK := mm_bd hK; obtain ⟨v49, e49, hK⟩ := hK
      refine mm_iald C (pc := 49) dX12_allAreOn_49 e49 ?_
      refine mm_iadd C (pc := 50) dX12_allAreOn_50 ?_
      replace hK := mm_bd hK; obtain ⟨v51, e51, hK⟩ := hK
      refine mm_iald C (pc := 51) dX12_allAreOn_51 e51 ?_
      refine mm_iconst C (pc := 52) (v := ((-1) : Int32)) dX12_allAreOn_52 (by decide) ?_
      refine mm_icmp_eq C (pc := 53) (tgt := 63) dX12_allAreOn_53 (by decide) (fun hc => ?_) (fun hc => ?_)
      · replace hK := mm_ip hc hK
        refine mm_iconst C (pc := 63) (v := (0 : Int32)) dX12_allAreOn_63 (by decide) ?_
        refine mm_sub C [0, 1, 3, 4] rfl ?_
        exact w_X12_allAreOn_64 hd C (fun z0 z1 z2 z3 z4 hK => q8 z0 z1 z2 z3 z4 hK) (fun z0 z1 z2 z3 z4 z5 hK => ih z0 z1 z2 z3 z4 z5 hK) _ _ _ _ _ _ _ hK
      · replace hK := mm_in hc hK
        refine mm_iconst C (pc := 56) (v := (1 : Int32)) dX12_allAreOn_56 (by decide) ?_
        refine mm_iload C (pc := 57) 4 dX12_allAreOn_57 rfl ?_
        refine mm_ishl C (pc := 59) dX12_allAreOn_59 ?_
        refine mm_goto C (pc := 60) (tgt := 64) dX12_allAreOn_60 (by decide) ?_
        refine mm_sub C [0, 1, 3, 4] rfl ?_
        exact w_X12_allAreOn_64 hd C (fun z0 z1 z2 z3 z4 hK => q8 z0 z1 z2 z3 z4 hK) (fun z0 z1 z2 z3 z4 z5 hK => ih z0 z1 z2 z3 z4 z5 hK) _ _ _ _ _ _ _ hK
def F_X12_allAreOn_8 : Nat → Option Nat → Int32 → Int32 → Int32 → MH → Option (Int32 × MH)
  | 0 => fun _ _ _ _ _ => none
  | n + 1 => fun l0 l1 l2 l3 h => if (1200 : Int32) ≤ l3 then (F_X12_allAreOn_78 l0 l1 l2 h) else (mm_b2 (F_X12_size l2 h) fun v16 h16 => if l1 ≤ v16 then (F_X12_allAreOn_78 l0 l1 l2 h16) else ((cV h16 l0 12 (F_X12_minute l0 h16)).bind fun h24 => F_X12_allAreOn_30 (F_X12_allAreOn_8 n) mm_N l0 l1 l2 l3 (0 : Int32) h24))
set_option maxRecDepth 20000 in
set_option maxHeartbeats 4000000 in
theorem w_X12_allAreOn_8 {d : Nat} {V : Nat → List (Nat × Value) → List Value → MH → Prop} {r : Int32} {hz : MH} (hd : 8 ≤ d) (C : mm_C d yX12_allAreOn cX12_allAreOn 5 (some .boolean) (.inr (some (.int r))) hz V) : ∀ (n : Nat) (l0 : Option Nat) (l1 : Int32) (l2 : Int32) (l3 : Int32) (h : MH), F_X12_allAreOn_8 n l0 l1 l2 l3 h = some (r, hz) → V 8 [(0, va_rf l0), (1, .int l1), (2, .int l2), (3, .int l3)] [] h := by
  intro n
  induction n with
  | zero => intro l0 l1 l2 l3 h hK; cases hK
  | succ n ih =>
    intro l0 l1 l2 l3 h hK
    replace hK : (if (1200 : Int32) ≤ l3 then (F_X12_allAreOn_78 l0 l1 l2 h) else (mm_b2 (F_X12_size l2 h) fun v16 h16 => if l1 ≤ v16 then (F_X12_allAreOn_78 l0 l1 l2 h16) else ((cV h16 l0 12 (F_X12_minute l0 h16)).bind fun h24 => F_X12_allAreOn_30 (F_X12_allAreOn_8 n) mm_N l0 l1 l2 l3 (0 : Int32) h24))) = some (r, hz) := hK
    refine mm_iload_n C (pc := 8) 3 dX12_allAreOn_8 rfl ?_
    refine mm_sipush C (pc := 9) (v := (1200 : Int32)) dX12_allAreOn_9 (by decide) ?_
    refine mm_icmp_ge C (pc := 12) (tgt := 78) dX12_allAreOn_12 (by decide) (fun hc => ?_) (fun hc => ?_)
    · replace hK := mm_ip hc hK
      refine mm_sub C [0, 1, 2] rfl ?_
      exact w_X12_allAreOn_78 hd C _ _ _ _ hK
    · replace hK := mm_in hc hK
      refine mm_iload_n C (pc := 15) 2 dX12_allAreOn_15 rfl ?_
      replace hK := mm_b2s hK; obtain ⟨v16, h16, e16, hK⟩ := hK
      refine mm_callS C (pc := 16) (d1 := 1) (As := [.int l2]) (st := []) (vk := (some (.int v16))) ((S_X12_size (by omega)) e16) tT_X12_size wd_2424 wd_2425 (by omega) (by decide) rfl (by simp [mm_crf, mm_cti, mm_ctl]) rfl dX12_allAreOn_16 ?_
      show V _ _ (.int v16 :: _) _
      refine mm_iload_n C (pc := 19) 1 dX12_allAreOn_19 rfl ?_
      refine mm_icmp_ge C (pc := 20) (tgt := 78) dX12_allAreOn_20 (by decide) (fun hc => ?_) (fun hc => ?_)
      · replace hK := mm_ip hc hK
        refine mm_sub C [0, 1, 2] rfl ?_
        exact w_X12_allAreOn_78 hd C _ _ _ _ hK
      · replace hK := mm_in hc hK
        refine mm_aload_n C (pc := 23) 0 dX12_allAreOn_23 rfl ?_
        replace hK := mm_bd hK; obtain ⟨h24, e24, hK⟩ := hK
        obtain ⟨o24, e24⟩ := cV_some e24
        refine mm_callV C (pc := 24) (d1 := 7) (As := []) (st := []) (vk := none) ((S_X12_minute (by omega)) e24) tT_X12_minute o24 (Or.inr ⟨_, rfl, rfl⟩) wd_2408 wd_2410 wd_100 (by omega) (by decide) rfl (by simp [mm_crf, mm_cti, mm_ctl]) rfl dX12_allAreOn_24 ?_
        show V _ _ [] _
        refine mm_iconst C (pc := 27) (v := (0 : Int32)) dX12_allAreOn_27 (by decide) ?_
        refine mm_istore C (pc := 28) (i := 4) (lv' := [(4, .int (0 : Int32)), (0, va_rf l0), (1, .int l1), (2, .int l2), (3, .int l3)]) dX12_allAreOn_28 (by decide) rfl ?_
        refine mm_sub C [1, 2, 3, 4, 0] rfl ?_
        exact w_X12_allAreOn_30 hd C (fun z0 z1 z2 z3 z4 hK => ih z0 z1 z2 z3 z4 hK) _ _ _ _ _ _ _ hK
def F_X12_allAreOn (a0 : Option Nat) (a1 : Int32) (h : MH) : Option (Int32 × MH) := (cV h a0 12 (F_X12_putsAside a0 h)).bind fun h1 => F_X12_allAreOn_8 mm_N a0 a1 (0 : Int32) (0 : Int32) h1
set_option maxRecDepth 20000 in
set_option maxHeartbeats 4000000 in
theorem S_X12_allAreOn {d : Nat} (hd : 8 ≤ d) {a0 : Option Nat} {a1 : Int32} {h : MH} {r : Int32} {hz : MH} (hK : F_X12_allAreOn a0 a1 h = some (r, hz)) : mm_M yX12_allAreOn cX12_allAreOn 5 (some .boolean) d [va_rf a0, .int a1] h (.inr (some (.int r))) hz := by
  refine mm_ofV (by decide +kernel) (by simp [lg_sl, mm_crf, mm_cti, mm_ctl]) (fun V C => ?_)
  rw [show lv_args 0 [va_rf a0, .int a1] = [(0, va_rf a0), (1, .int a1)] by simp [lv_args, mm_crf, mm_cti, mm_ctl]]
  unfold F_X12_allAreOn at hK
  refine mm_aload_n C (pc := 0) 0 dX12_allAreOn_0 rfl ?_
  replace hK := mm_bd hK; obtain ⟨h1, e1, hK⟩ := hK
  obtain ⟨o1, e1⟩ := cV_some e1
  refine mm_callV C (pc := 1) (d1 := 1) (As := []) (st := []) (vk := none) ((S_X12_putsAside (by omega)) e1) tT_X12_putsAside o1 (Or.inr ⟨_, rfl, rfl⟩) wd_2444 wd_2446 wd_105 (by omega) (by decide) rfl (by simp [mm_crf, mm_cti, mm_ctl]) rfl dX12_allAreOn_1 ?_
  show V _ _ [] _
  refine mm_iconst C (pc := 4) (v := (0 : Int32)) dX12_allAreOn_4 (by decide) ?_
  refine mm_istore_n C (pc := 5) (i := 2) (lv' := [(2, .int (0 : Int32)), (0, va_rf a0), (1, .int a1)]) dX12_allAreOn_5 rfl (by decide) rfl ?_
  refine mm_iconst C (pc := 6) (v := (0 : Int32)) dX12_allAreOn_6 (by decide) ?_
  refine mm_istore_n C (pc := 7) (i := 3) (lv' := [(3, .int (0 : Int32)), (2, .int (0 : Int32)), (0, va_rf a0), (1, .int a1)]) dX12_allAreOn_7 rfl (by decide) rfl ?_
  refine mm_sub C [2, 3, 1, 0] rfl ?_
  exact w_X12_allAreOn_8 hd C _ _ _ _ _ _ hK
theorem wd_2597 : Cond.code yX12_goesCrossed cX12_goesCrossed 5 none ∈ lw_good := mm_wd 2597 (by decide +kernel) (by decide +kernel)
theorem tT_X12_goesCrossed : mm_T yX12_goesCrossed cX12_goesCrossed 5 none 2 := ⟨wd_2597, wd_170, by decide +kernel, by decide +kernel, by decide +kernel, by decide +kernel⟩
theorem wd_2594 : Cond.methodLink RX12 475 yX12_goesCrossed ∈ lw_good := mm_wd 2594 (by decide +kernel) (by decide +kernel)
theorem wd_2596 : Cond.instanceMethod yX12_goesCrossed ∈ lw_good := mm_wd 2596 (by decide +kernel) (by decide +kernel)
theorem wd_126 : Cond.selects RX12 yX12_goesCrossed yX12_goesCrossed ∈ lw_good := mm_wd 126 (by decide +kernel) (by decide +kernel)
theorem wd_2601 : Cond.code yX12_allAreOn cX12_allAreOn 5 (some .boolean) ∈ lw_good := mm_wd 2601 (by decide +kernel) (by decide +kernel)
theorem tT_X12_allAreOn : mm_T yX12_allAreOn cX12_allAreOn 5 (some .boolean) 1 := ⟨wd_2601, wd_170, by decide +kernel, by decide +kernel, by decide +kernel, by decide +kernel⟩
theorem wd_2598 : Cond.methodLink RX12 469 yX12_allAreOn ∈ lw_good := mm_wd 2598 (by decide +kernel) (by decide +kernel)
theorem wd_2600 : Cond.instanceMethod yX12_allAreOn ∈ lw_good := mm_wd 2600 (by decide +kernel) (by decide +kernel)
theorem wd_127 : Cond.selects RX12 yX12_allAreOn yX12_allAreOn ∈ lw_good := mm_wd 127 (by decide +kernel) (by decide +kernel)
theorem wd_2032 : Cond.fieldLink RX12 472 "CrossedLinesModel" "ways" "I" ∈ lw_good := mm_wd 2032 (by decide +kernel) (by decide +kernel)
abbrev PT_X12_goesCrossed : Type := (Option Nat → Int32 → Int32 → MH → Option MH)
def PH_X12_goesCrossed (p : PT_X12_goesCrossed) (d0 : Nat) : Prop := (∀ d : Nat, d0 ≤ d → ∀ {a0 : Option Nat} {a1 : Int32} {a2 : Int32} {h : MH} {hz : MH}, p a0 a1 a2 h = some hz → mm_M yX12_goesCrossed cX12_goesCrossed 5 none d [va_rf a0, .int a1, .int a2] h (.inr none) hz)
def F_X12_goesCrossed_203 (p : PT_X12_goesCrossed) (k67 : Option Nat → Int32 → Int32 → Int32 → MH → Option MH) (l0 : Option Nat) (l1 : Int32) (l2 : Int32) (l3 : Int32) (h : MH) : Option MH := k67 l0 l1 l2 (l3 + (1 : Int32)) h
set_option maxRecDepth 20000 in
set_option maxHeartbeats 4000000 in
theorem w_X12_goesCrossed_203 {d : Nat} {V : Nat → List (Nat × Value) → List Value → MH → Prop} {hz : MH} {p : PT_X12_goesCrossed} {d0 : Nat} (hd0 : d0 + 1 ≤ d) (hp : PH_X12_goesCrossed p d0) {k67 : Option Nat → Int32 → Int32 → Int32 → MH → Option MH} (hd : 9 ≤ d) (C : mm_C d yX12_goesCrossed cX12_goesCrossed 5 none (.inr none) hz V) (q67 : ∀ (x0 : Option Nat) (x1 : Int32) (x2 : Int32) (x3 : Int32) (h : MH), k67 x0 x1 x2 x3 h = some hz → V 67 [(0, va_rf x0), (1, .int x1), (2, .int x2), (3, .int x3)] [] h) (l0 : Option Nat) (l1 : Int32) (l2 : Int32) (l3 : Int32) (h : MH) (hK : F_X12_goesCrossed_203 p k67 l0 l1 l2 l3 h = some hz) : V 203 [(0, va_rf l0), (1, .int l1), (2, .int l2), (3, .int l3)] [] h := by
  unfold F_X12_goesCrossed_203 at hK
  refine mm_iinc C (pc := 203) (v := (l3 + (1 : Int32))) (lv' := [(3, .int (l3 + (1 : Int32))), (0, va_rf l0), (1, .int l1), (2, .int l2)]) 3 dX12_goesCrossed_203 rfl rfl (by decide) rfl ?_
  refine mm_goto C (pc := 206) (tgt := 67) dX12_goesCrossed_206 (by decide) ?_
  refine mm_sub C [1, 2, 3, 0] rfl ?_
  exact q67 _ _ _ _ _ hK
def F_X12_goesCrossed_184 (p : PT_X12_goesCrossed) (k67 : Option Nat → Int32 → Int32 → Int32 → MH → Option MH) (l0 : Option Nat) (l1 : Int32) (l2 : Int32) (l3 : Int32) (s0 : Int32) (s1 : Int32) (s2 : Option Nat) (s3 : Int32) (s4 : Option Nat) (h : MH) : Option MH := mm_b2 (cV h s2 12 (F_X12_told s2 s1 s0 h)) fun v184 h184 => (sI h184 s4 0 s3 v184).bind fun h187 => (cV h187 l0 12 (p l0 l1 (l2 + (1 : Int32)) h187)).bind fun h193 => (gR h193 l0 12 21).bind fun v197 => (sI h193 v197 0 l3 ((-1) : Int32)).bind fun h202 => F_X12_goesCrossed_203 p k67 l0 l1 l2 l3 h202
set_option maxRecDepth 20000 in
set_option maxHeartbeats 4000000 in
theorem w_X12_goesCrossed_184 {d : Nat} {V : Nat → List (Nat × Value) → List Value → MH → Prop} {hz : MH} {p : PT_X12_goesCrossed} {d0 : Nat} (hd0 : d0 + 1 ≤ d) (hp : PH_X12_goesCrossed p d0) {k67 : Option Nat → Int32 → Int32 → Int32 → MH → Option MH} (hd : 9 ≤ d) (C : mm_C d yX12_goesCrossed cX12_goesCrossed 5 none (.inr none) hz V) (q67 : ∀ (x0 : Option Nat) (x1 : Int32) (x2 : Int32) (x3 : Int32) (h : MH), k67 x0 x1 x2 x3 h = some hz → V 67 [(0, va_rf x0), (1, .int x1), (2, .int x2), (3, .int x3)] [] h) (l0 : Option Nat) (l1 : Int32) (l2 : Int32) (l3 : Int32) (s0 : Int32) (s1 : Int32) (s2 : Option Nat) (s3 : Int32) (s4 : Option Nat) (h : MH) (hK : F_X12_goesCrossed_184 p k67 l0 l1 l2 l3 s0 s1 s2 s3 s4 h = some hz) : V 184 [(0, va_rf l0), (1, .int l1), (2, .int l2), (3, .int l3)] [.int s0, .int s1, va_rf s2, .int s3, va_rf s4] h := by
  unfold F_X12_goesCrossed_184 at hK
  replace hK := mm_b2s hK; obtain ⟨v184, h184, e184, hK⟩ := hK
  obtain ⟨o184, e184⟩ := cV_some e184
  refine mm_callV C (pc := 184) (d1 := 1) (As := [.int s1, .int s0]) (st := [.int s3, va_rf s4]) (vk := (some (.int v184))) ((S_X12_told (by omega)) e184) tT_X12_told o184 (Or.inr ⟨_, rfl, rfl⟩) wd_2582 wd_2584 wd_124 (by omega) (by decide) rfl (by simp [mm_crf, mm_cti, mm_ctl]) rfl dX12_goesCrossed_184 ?_
  show V _ _ (.int v184 :: _) _
  replace hK := mm_bd hK; obtain ⟨h187, e187, hK⟩ := hK
  refine mm_iast C (pc := 187) dX12_goesCrossed_187 e187 ?_
  refine mm_aload_n C (pc := 188) 0 dX12_goesCrossed_188 rfl ?_
  refine mm_iload_n C (pc := 189) 1 dX12_goesCrossed_189 rfl ?_
  refine mm_iload_n C (pc := 190) 2 dX12_goesCrossed_190 rfl ?_
  refine mm_iconst C (pc := 191) (v := (1 : Int32)) dX12_goesCrossed_191 (by decide) ?_
  refine mm_iadd C (pc := 192) dX12_goesCrossed_192 ?_
  replace hK := mm_bd hK; obtain ⟨h193, e193, hK⟩ := hK
  obtain ⟨o193, e193⟩ := cV_some e193
  refine mm_callV C (pc := 193) (d1 := d0) (As := [.int l1, .int (l2 + (1 : Int32))]) (st := []) (vk := none) ((hp _ (by omega) ) e193) tT_X12_goesCrossed o193 (Or.inr ⟨_, rfl, rfl⟩) wd_2594 wd_2596 wd_126 (by omega) (by decide) rfl (by simp [mm_crf, mm_cti, mm_ctl]) rfl dX12_goesCrossed_193 ?_
  show V _ _ [] _
  refine mm_aload_n C (pc := 196) 0 dX12_goesCrossed_196 rfl ?_
  replace hK := mm_bd hK; obtain ⟨v197, e197, hK⟩ := hK
  refine mm_getr C (pc := 197) (k := 21) inGX12 rfl (by decide) wd_2020 dX12_goesCrossed_197 e197 ?_
  refine mm_iload_n C (pc := 200) 3 dX12_goesCrossed_200 rfl ?_
  refine mm_iconst C (pc := 201) (v := ((-1) : Int32)) dX12_goesCrossed_201 (by decide) ?_
  replace hK := mm_bd hK; obtain ⟨h202, e202, hK⟩ := hK
  refine mm_iast C (pc := 202) dX12_goesCrossed_202 e202 ?_
  exact w_X12_goesCrossed_203 hd0 hp hd C (fun z0 z1 z2 z3 z4 hK => q67 z0 z1 z2 z3 z4 hK) _ _ _ _ _ hK
def F_X12_goesCrossed_154 (p : PT_X12_goesCrossed) (k67 : Option Nat → Int32 → Int32 → Int32 → MH → Option MH) (l0 : Option Nat) (l1 : Int32) (l2 : Int32) (l3 : Int32) (l4 : Int32) (h : MH) : Option MH := (gR h l0 12 31).bind fun v155 => (sI h v155 0 l2 l3).bind fun h160 => (gR h160 l0 12 21).bind fun v162 => if l4 = 0 then (F_X12_goesCrossed_184 p k67 l0 l1 l2 l3 ((2 : Int32) * l2) l1 l0 l3 v162 h160) else (F_X12_goesCrossed_184 p k67 l0 l1 l2 l3 (((2 : Int32) * l2) + (1 : Int32)) l1 l0 l3 v162 h160)
set_option maxRecDepth 20000 in
set_option maxHeartbeats 4000000 in
theorem w_X12_goesCrossed_154 {d : Nat} {V : Nat → List (Nat × Value) → List Value → MH → Prop} {hz : MH} {p : PT_X12_goesCrossed} {d0 : Nat} (hd0 : d0 + 1 ≤ d) (hp : PH_X12_goesCrossed p d0) {k67 : Option Nat → Int32 → Int32 → Int32 → MH → Option MH} (hd : 9 ≤ d) (C : mm_C d yX12_goesCrossed cX12_goesCrossed 5 none (.inr none) hz V) (q67 : ∀ (x0 : Option Nat) (x1 : Int32) (x2 : Int32) (x3 : Int32) (h : MH), k67 x0 x1 x2 x3 h = some hz → V 67 [(0, va_rf x0), (1, .int x1), (2, .int x2), (3, .int x3)] [] h) (l0 : Option Nat) (l1 : Int32) (l2 : Int32) (l3 : Int32) (l4 : Int32) (h : MH) (hK : F_X12_goesCrossed_154 p k67 l0 l1 l2 l3 l4 h = some hz) : V 154 [(0, va_rf l0), (1, .int l1), (2, .int l2), (3, .int l3), (4, .int l4)] [] h := by
  unfold F_X12_goesCrossed_154 at hK
  refine mm_aload_n C (pc := 154) 0 dX12_goesCrossed_154 rfl ?_
  replace hK := mm_bd hK; obtain ⟨v155, e155, hK⟩ := hK
  refine mm_getr C (pc := 155) (k := 31) inGX12 rfl (by decide) wd_2030 dX12_goesCrossed_155 e155 ?_
  refine mm_iload_n C (pc := 158) 2 dX12_goesCrossed_158 rfl ?_
  refine mm_iload_n C (pc := 159) 3 dX12_goesCrossed_159 rfl ?_
  replace hK := mm_bd hK; obtain ⟨h160, e160, hK⟩ := hK
  refine mm_iast C (pc := 160) dX12_goesCrossed_160 e160 ?_
  refine mm_aload_n C (pc := 161) 0 dX12_goesCrossed_161 rfl ?_
  replace hK := mm_bd hK; obtain ⟨v162, e162, hK⟩ := hK
  refine mm_getr C (pc := 162) (k := 21) inGX12 rfl (by decide) wd_2020 dX12_goesCrossed_162 e162 ?_
  refine mm_iload_n C (pc := 165) 3 dX12_goesCrossed_165 rfl ?_
  refine mm_aload_n C (pc := 166) 0 dX12_goesCrossed_166 rfl ?_
  refine mm_iload_n C (pc := 167) 1 dX12_goesCrossed_167 rfl ?_
  refine mm_iload C (pc := 168) 4 dX12_goesCrossed_168 rfl ?_
  refine mm_if_eq C (pc := 170) (tgt := 181) dX12_goesCrossed_170 (by decide) (fun hc => ?_) (fun hc => ?_)
  · replace hK := mm_ip hc hK
    refine mm_iconst C (pc := 181) (v := (2 : Int32)) dX12_goesCrossed_181 (by decide) ?_
    refine mm_iload_n C (pc := 182) 2 dX12_goesCrossed_182 rfl ?_
    refine mm_imul C (pc := 183) dX12_goesCrossed_183 ?_
    refine mm_sub C [0, 1, 2, 3] rfl ?_
    exact w_X12_goesCrossed_184 hd0 hp hd C (fun z0 z1 z2 z3 z4 hK => q67 z0 z1 z2 z3 z4 hK) _ _ _ _ _ _ _ _ _ _ hK
  · replace hK := mm_in hc hK
    refine mm_iconst C (pc := 173) (v := (2 : Int32)) dX12_goesCrossed_173 (by decide) ?_
    refine mm_iload_n C (pc := 174) 2 dX12_goesCrossed_174 rfl ?_
    refine mm_imul C (pc := 175) dX12_goesCrossed_175 ?_
    refine mm_iconst C (pc := 176) (v := (1 : Int32)) dX12_goesCrossed_176 (by decide) ?_
    refine mm_iadd C (pc := 177) dX12_goesCrossed_177 ?_
    refine mm_goto C (pc := 178) (tgt := 184) dX12_goesCrossed_178 (by decide) ?_
    refine mm_sub C [0, 1, 2, 3] rfl ?_
    exact w_X12_goesCrossed_184 hd0 hp hd C (fun z0 z1 z2 z3 z4 hK => q67 z0 z1 z2 z3 z4 hK) _ _ _ _ _ _ _ _ _ _ hK
def F_X12_goesCrossed_100 (p : PT_X12_goesCrossed) (k67 : Option Nat → Int32 → Int32 → Int32 → MH → Option MH) (l0 : Option Nat) (l1 : Int32) (l2 : Int32) (l3 : Int32) (s0 : Int32) (h : MH) : Option MH := (gR h l0 12 0).bind fun v103 => (aI h v103 0 ((8 : Int32) + l3)).bind fun v110 => if v110 = 0 then ((gR h l0 12 21).bind fun v115 => (aI h v115 0 l3).bind fun v119 => if v119 = ((-1) : Int32) then (if s0 = 0 then ((gR h l0 12 0).bind fun v130 => (aI h v130 0 ((51 : Int32) + l3)).bind fun v137 => mm_b2 (cV h l0 12 (F_X12_told l0 l1 (((2 : Int32) * l2) + (1 : Int32)) h)) fun v145 h145 => if v137 = v145 then (F_X12_goesCrossed_154 p k67 l0 l1 l2 l3 s0 h145) else (F_X12_goesCrossed_203 p k67 l0 l1 l2 l3 h145)) else (F_X12_goesCrossed_154 p k67 l0 l1 l2 l3 s0 h)) else (F_X12_goesCrossed_203 p k67 l0 l1 l2 l3 h)) else (F_X12_goesCrossed_203 p k67 l0 l1 l2 l3 h)
set_option maxRecDepth 20000 in
set_option maxHeartbeats 4000000 in
theorem w_X12_goesCrossed_100 {d : Nat} {V : Nat → List (Nat × Value) → List Value → MH → Prop} {hz : MH} {p : PT_X12_goesCrossed} {d0 : Nat} (hd0 : d0 + 1 ≤ d) (hp : PH_X12_goesCrossed p d0) {k67 : Option Nat → Int32 → Int32 → Int32 → MH → Option MH} (hd : 9 ≤ d) (C : mm_C d yX12_goesCrossed cX12_goesCrossed 5 none (.inr none) hz V) (q67 : ∀ (x0 : Option Nat) (x1 : Int32) (x2 : Int32) (x3 : Int32) (h : MH), k67 x0 x1 x2 x3 h = some hz → V 67 [(0, va_rf x0), (1, .int x1), (2, .int x2), (3, .int x3)] [] h) (l0 : Option Nat) (l1 : Int32) (l2 : Int32) (l3 : Int32) (s0 : Int32) (h : MH) (hK : F_X12_goesCrossed_100 p k67 l0 l1 l2 l3 s0 h = some hz) : V 100 [(0, va_rf l0), (1, .int l1), (2, .int l2), (3, .int l3)] [.int s0] h := by
  unfold F_X12_goesCrossed_100 at hK
  refine mm_istore C (pc := 100) (i := 4) (lv' := [(4, .int s0), (0, va_rf l0), (1, .int l1), (2, .int l2), (3, .int l3)]) dX12_goesCrossed_100 (by decide) rfl ?_
  refine mm_aload_n C (pc := 102) 1 dX12_goesCrossed_102 rfl ?_
  replace hK := mm_bd hK; obtain ⟨v103, e103, hK⟩ := hK
  refine mm_getr C (pc := 103) (k := 0) inGX12 rfl (by decide) wd_1999 dX12_goesCrossed_103 e103 ?_
  refine mm_bipush C (pc := 106) (v := (8 : Int32)) dX12_goesCrossed_106 (by decide) ?_
  refine mm_iload_n C (pc := 108) 4 dX12_goesCrossed_108 rfl ?_
  refine mm_iadd C (pc := 109) dX12_goesCrossed_109 ?_
  replace hK := mm_bd hK; obtain ⟨v110, e110, hK⟩ := hK
  refine mm_iald C (pc := 110) dX12_goesCrossed_110 e110 ?_
  refine mm_if_ne C (pc := 111) (tgt := 203) dX12_goesCrossed_111 (by decide) (fun hc => ?_) (fun hc => ?_)
  · replace hK := mm_in hc hK
    refine mm_sub C [1, 2, 3, 4] rfl ?_
    exact w_X12_goesCrossed_203 hd0 hp hd C (fun z0 z1 z2 z3 z4 hK => q67 z0 z1 z2 z3 z4 hK) _ _ _ _ _ hK
  · replace hK := mm_ip hc hK
    refine mm_aload_n C (pc := 114) 1 dX12_goesCrossed_114 rfl ?_
    replace hK := mm_bd hK; obtain ⟨v115, e115, hK⟩ := hK
    refine mm_getr C (pc := 115) (k := 21) inGX12 rfl (by decide) wd_2020 dX12_goesCrossed_115 e115 ?_
    refine mm_iload_n C (pc := 118) 4 dX12_goesCrossed_118 rfl ?_
    replace hK := mm_bd hK; obtain ⟨v119, e119, hK⟩ := hK
    refine mm_iald C (pc := 119) dX12_goesCrossed_119 e119 ?_
    refine mm_iconst C (pc := 120) (v := ((-1) : Int32)) dX12_goesCrossed_120 (by decide) ?_
    refine mm_icmp_ne C (pc := 121) (tgt := 203) dX12_goesCrossed_121 (by decide) (fun hc => ?_) (fun hc => ?_)
    · replace hK := mm_in hc hK
      refine mm_sub C [1, 2, 3, 4] rfl ?_
      exact w_X12_goesCrossed_203 hd0 hp hd C (fun z0 z1 z2 z3 z4 hK => q67 z0 z1 z2 z3 z4 hK) _ _ _ _ _ hK
    · replace hK := mm_ip hc hK
      refine mm_iload C (pc := 124) 0 dX12_goesCrossed_124 rfl ?_
      refine mm_if_ne C (pc := 126) (tgt := 154) dX12_goesCrossed_126 (by decide) (fun hc => ?_) (fun hc => ?_)
      · replace hK := mm_in hc hK
        refine mm_sub C [1, 2, 3, 4, 0] rfl ?_
        exact w_X12_goesCrossed_154 hd0 hp hd C (fun z0 z1 z2 z3 z4 hK => q67 z0 z1 z2 z3 z4 hK) _ _ _ _ _ _ hK
      · replace hK := mm_ip hc hK
        refine mm_aload_n C (pc := 129) 1 dX12_goesCrossed_129 rfl ?_
        replace hK := mm_bd hK; obtain ⟨v130, e130, hK⟩ := hK
        refine mm_getr C (pc := 130) (k := 0) inGX12 rfl (by decide) wd_1999 dX12_goesCrossed_130 e130 ?_
        refine mm_bipush C (pc := 133) (v := (51 : Int32)) dX12_goesCrossed_133 (by decide) ?_
        refine mm_iload_n C (pc := 135) 4 dX12_goesCrossed_135 rfl ?_
        refine mm_iadd C (pc := 136) dX12_goesCrossed_136 ?_
        replace hK := mm_bd hK; obtain ⟨v137, e137, hK⟩ := hK
        refine mm_iald C (pc := 137) dX12_goesCrossed_137 e137 ?_
        refine mm_aload_n C (pc := 138) 1 dX12_goesCrossed_138 rfl ?_
        refine mm_iload_n C (pc := 139) 2 dX12_goesCrossed_139 rfl ?_
        refine mm_iconst C (pc := 140) (v := (2 : Int32)) dX12_goesCrossed_140 (by decide) ?_
        refine mm_iload_n C (pc := 141) 3 dX12_goesCrossed_141 rfl ?_
        refine mm_imul C (pc := 142) dX12_goesCrossed_142 ?_
        refine mm_iconst C (pc := 143) (v := (1 : Int32)) dX12_goesCrossed_143 (by decide) ?_
        refine mm_iadd C (pc := 144) dX12_goesCrossed_144 ?_
        replace hK := mm_b2s hK; obtain ⟨v145, h145, e145, hK⟩ := hK
        obtain ⟨o145, e145⟩ := cV_some e145
        refine mm_callV C (pc := 145) (d1 := 1) (As := [.int l1, .int (((2 : Int32) * l2) + (1 : Int32))]) (st := [.int v137]) (vk := (some (.int v145))) ((S_X12_told (by omega)) e145) tT_X12_told o145 (Or.inr ⟨_, rfl, rfl⟩) wd_2582 wd_2584 wd_124 (by omega) (by decide) rfl (by simp [mm_crf, mm_cti, mm_ctl]) rfl dX12_goesCrossed_145 ?_
        show V _ _ (.int v145 :: _) _
        refine mm_icmp_eq C (pc := 148) (tgt := 154) dX12_goesCrossed_148 (by decide) (fun hc => ?_) (fun hc => ?_)
        · replace hK := mm_ip hc hK
          refine mm_sub C [1, 2, 3, 4, 0] rfl ?_
          exact w_X12_goesCrossed_154 hd0 hp hd C (fun z0 z1 z2 z3 z4 hK => q67 z0 z1 z2 z3 z4 hK) _ _ _ _ _ _ hK
        · replace hK := mm_in hc hK
          refine mm_goto C (pc := 151) (tgt := 203) dX12_goesCrossed_151 (by decide) ?_
          refine mm_sub C [1, 2, 3, 4] rfl ?_
          exact w_X12_goesCrossed_203 hd0 hp hd C (fun z0 z1 z2 z3 z4 hK => q67 z0 z1 z2 z3 z4 hK) _ _ _ _ _ hK
def F_X12_goesCrossed_67 (p : PT_X12_goesCrossed) : Nat → Option Nat → Int32 → Int32 → Int32 → MH → Option MH
  | 0 => fun _ _ _ _ _ => none
  | n + 1 => fun l0 l1 l2 l3 h => mm_b2 (cV h l0 12 (F_X12_calls l0 h)) fun v69 h69 => if v69 ≤ l3 then (some h69) else ((gR h69 l0 12 0).bind fun v76 => (aI h69 v76 0 ((51 : Int32) + l3)).bind fun v83 => mm_b2 (cV h69 l0 12 (F_X12_told l0 l1 ((2 : Int32) * l2) h69)) fun v89 h89 => if v83 = v89 then (F_X12_goesCrossed_100 p (F_X12_goesCrossed_67 p n) l0 l1 l2 l3 (1 : Int32) h89) else (F_X12_goesCrossed_100 p (F_X12_goesCrossed_67 p n) l0 l1 l2 l3 (0 : Int32) h89))
set_option maxRecDepth 20000 in
set_option maxHeartbeats 4000000 in
theorem w_X12_goesCrossed_67 {d : Nat} {V : Nat → List (Nat × Value) → List Value → MH → Prop} {hz : MH} {p : PT_X12_goesCrossed} {d0 : Nat} (hd0 : d0 + 1 ≤ d) (hp : PH_X12_goesCrossed p d0) (hd : 9 ≤ d) (C : mm_C d yX12_goesCrossed cX12_goesCrossed 5 none (.inr none) hz V) : ∀ (n : Nat) (l0 : Option Nat) (l1 : Int32) (l2 : Int32) (l3 : Int32) (h : MH), F_X12_goesCrossed_67 p n l0 l1 l2 l3 h = some hz → V 67 [(0, va_rf l0), (1, .int l1), (2, .int l2), (3, .int l3)] [] h := by
  intro n
  induction n with
  | zero => intro l0 l1 l2 l3 h hK; cases hK
  | succ n ih =>
    intro l0 l1 l2 l3 h hK
    replace hK : (mm_b2 (cV h l0 12 (F_X12_calls l0 h)) fun v69 h69 => if v69 ≤ l3 then (some h69) else ((gR h69 l0 12 0).bind fun v76 => (aI h69 v76 0 ((51 : Int32) + l3)).bind fun v83 => mm_b2 (cV h69 l0 12 (F_X12_told l0 l1 ((2 : Int32) * l2) h69)) fun v89 h89 => if v83 = v89 then (F_X12_goesCrossed_100 p (F_X12_goesCrossed_67 p n) l0 l1 l2 l3 (1 : Int32) h89) else (F_X12_goesCrossed_100 p (F_X12_goesCrossed_67 p n) l0 l1 l2 l3 (0 : Int32) h89))) = some hz := hK
    refine mm_iload_n C (pc := 67) 3 dX12_goesCrossed_67 rfl ?_
    refine mm_aload_n C (pc := 68) 0 dX12_goesCrossed_68 rfl ?_
    replace hK := mm_b2s hK; obtain ⟨v69, h69, e69, hK⟩ := hK
    obtain ⟨o69, e69⟩ := cV_some e69
    refine mm_callV C (pc := 69) (d1 := 1) (As := []) (st := [.int l3]) (vk := (some (.int v69))) ((S_X12_calls (by omega)) e69) tT_X12_calls o69 (Or.inr ⟨_, rfl, rfl⟩) wd_2295 wd_2297 wd_87 (by omega) (by decide) rfl (by simp [mm_crf, mm_cti, mm_ctl]) rfl dX12_goesCrossed_69 ?_
    show V _ _ (.int v69 :: _) _
    refine mm_icmp_ge C (pc := 72) (tgt := 209) dX12_goesCrossed_72 (by decide) (fun hc => ?_) (fun hc => ?_)
    · replace hK := mm_ip hc hK
      cases hK
      exact mm_vret C (pc := 209) rfl dX12_goesCrossed_209 rfl rfl
    · replace hK := mm_in hc hK
      refine mm_aload_n C (pc := 75) 0 dX12_goesCrossed_75 rfl ?_
      replace hK := mm_bd hK; obtain ⟨v76, e76, hK⟩ := hK
      refine mm_getr C (pc := 76) (k := 0) inGX12 rfl (by decide) wd_1999 dX12_goesCrossed_76 e76 ?_
      refine mm_bipush C (pc := 79) (v := (51 : Int32)) dX12_goesCrossed_79 (by decide) ?_
      refine mm_iload_n C (pc := 81) 3 dX12_goesCrossed_81 rfl ?_
      refine mm_iadd C (pc := 82) dX12_goesCrossed_82 ?_
      replace hK := mm_bd hK; obtain ⟨v83, e83, hK⟩ := hK
      refine mm_iald C (pc := 83) dX12_goesCrossed_83 e83 ?_
      refine mm_aload_n C (pc := 84) 0 dX12_goesCrossed_84 rfl ?_
      refine mm_iload_n C (pc := 85) 1 dX12_goesCrossed_85 rfl ?_
      refine mm_iconst C (pc := 86) (v := (2 : Int32)) dX12_goesCrossed_86 (by decide) ?_
      refine mm_iload_n C (pc := 87) 2 dX12_goesCrossed_87 rfl ?_
      refine mm_imul C (pc := 88) dX12_goesCrossed_88 ?_
      replace hK := mm_b2s hK; obtain ⟨v89, h89, e89, hK⟩ := hK
      obtain ⟨o89, e89⟩ := cV_some e89
      refine mm_callV C (pc := 89) (d1 := 1) (As := [.int l1, .int ((2 : Int32) * l2)]) (st := [.int v83]) (vk := (some (.int v89))) ((S_X12_told (by omega)) e89) tT_X12_told o89 (Or.inr ⟨_, rfl, rfl⟩) wd_2582 wd_2584 wd_124 (by omega) (by decide) rfl (by simp [mm_crf, mm_cti, mm_ctl]) rfl dX12_goesCrossed_89 ?_
      show V _ _ (.int v89 :: _) _
      refine mm_icmp_ne C (pc := 92) (tgt := 99) dX12_goesCrossed_92 (by decide) (fun hc => ?_) (fun hc => ?_)
      · replace hK := mm_in hc hK
        refine mm_iconst C (pc := 99) (v := (0 : Int32)) dX12_goesCrossed_99 (by decide) ?_
        exact w_X12_goesCrossed_100 hd0 hp hd C (fun z0 z1 z2 z3 z4 hK => ih z0 z1 z2 z3 z4 hK) _ _ _ _ _ _ hK
      · replace hK := mm_ip hc hK
        refine mm_iconst C (pc := 95) (v := (1 : Int32)) dX12_goesCrossed_95 (by decide) ?_
        refine mm_goto C (pc := 96) (tgt := 100) dX12_goesCrossed_96 (by decide) ?_
        exact w_X12_goesCrossed_100 hd0 hp hd C (fun z0 z1 z2 z3 z4 hK => ih z0 z1 z2 z3 z4 hK) _ _ _ _ _ _ hK
def F_X12_goesCrossed_64 (p : PT_X12_goesCrossed) (h : MH) : Option MH := some h
set_option maxRecDepth 20000 in
set_option maxHeartbeats 4000000 in
theorem w_X12_goesCrossed_64 {d : Nat} {V : Nat → List (Nat × Value) → List Value → MH → Prop} {hz : MH} {p : PT_X12_goesCrossed} {d0 : Nat} (hd0 : d0 + 1 ≤ d) (hp : PH_X12_goesCrossed p d0) (hd : 9 ≤ d) (C : mm_C d yX12_goesCrossed cX12_goesCrossed 5 none (.inr none) hz V) (h : MH) (hK : F_X12_goesCrossed_64 p  h = some hz) : V 64 [] [] h := by
  unfold F_X12_goesCrossed_64 at hK
  cases hK
  exact mm_vret C (pc := 64) rfl dX12_goesCrossed_64 rfl rfl
def F_X12_goesCrossed_33 (p : PT_X12_goesCrossed) : Nat → Option Nat → Int32 → Int32 → MH → Option MH
  | 0 => fun _ _ _ _ => none
  | n + 1 => fun l0 l2 l3 h => if l2 ≤ l3 then (F_X12_goesCrossed_64 p h) else ((gI h l0 12 33).bind fun v39 => if v39 = (1 : Int32) then ((gR h l0 12 32).bind fun v47 => (gR h l0 12 31).bind fun v52 => (aI h v52 0 l3).bind fun v56 => (sI h v47 0 l3 v56).bind fun h57 => F_X12_goesCrossed_33 p n l0 l2 (l3 + (1 : Int32)) h57) else (F_X12_goesCrossed_64 p h))
set_option maxRecDepth 20000 in
set_option maxHeartbeats 4000000 in
theorem w_X12_goesCrossed_33 {d : Nat} {V : Nat → List (Nat × Value) → List Value → MH → Prop} {hz : MH} {p : PT_X12_goesCrossed} {d0 : Nat} (hd0 : d0 + 1 ≤ d) (hp : PH_X12_goesCrossed p d0) (hd : 9 ≤ d) (C : mm_C d yX12_goesCrossed cX12_goesCrossed 5 none (.inr none) hz V) : ∀ (n : Nat) (l0 : Option Nat) (l2 : Int32) (l3 : Int32) (h : MH), F_X12_goesCrossed_33 p n l0 l2 l3 h = some hz → V 33 [(0, va_rf l0), (2, .int l2), (3, .int l3)] [] h := by
  intro n
  induction n with
  | zero => intro l0 l2 l3 h hK; cases hK
  | succ n ih =>
    intro l0 l2 l3 h hK
    replace hK : (if l2 ≤ l3 then (F_X12_goesCrossed_64 p h) else ((gI h l0 12 33).bind fun v39 => if v39 = (1 : Int32) then ((gR h l0 12 32).bind fun v47 => (gR h l0 12 31).bind fun v52 => (aI h v52 0 l3).bind fun v56 => (sI h v47 0 l3 v56).bind fun h57 => F_X12_goesCrossed_33 p n l0 l2 (l3 + (1 : Int32)) h57) else (F_X12_goesCrossed_64 p h))) = some hz := hK
    refine mm_iload_n C (pc := 33) 2 dX12_goesCrossed_33 rfl ?_
    refine mm_iload_n C (pc := 34) 1 dX12_goesCrossed_34 rfl ?_
    refine mm_icmp_ge C (pc := 35) (tgt := 64) dX12_goesCrossed_35 (by decide) (fun hc => ?_) (fun hc => ?_)
    · replace hK := mm_ip hc hK
      refine mm_sub C [] rfl ?_
      exact w_X12_goesCrossed_64 hd0 hp hd C _ hK
    · replace hK := mm_in hc hK
      refine mm_aload_n C (pc := 38) 0 dX12_goesCrossed_38 rfl ?_
      replace hK := mm_bd hK; obtain ⟨v39, e39, hK⟩ := hK
      refine mm_geti C (pc := 39) (k := 33) inGX12 rfl (by decide) wd_2032 dX12_goesCrossed_39 e39 ?_
      refine mm_iconst C (pc := 42) (v := (1 : Int32)) dX12_goesCrossed_42 (by decide) ?_
      refine mm_icmp_ne C (pc := 43) (tgt := 64) dX12_goesCrossed_43 (by decide) (fun hc => ?_) (fun hc => ?_)
      · replace hK := mm_in hc hK
        refine mm_sub C [] rfl ?_
        exact w_X12_goesCrossed_64 hd0 hp hd C _ hK
      · replace hK := mm_ip hc hK
        refine mm_aload_n C (pc := 46) 0 dX12_goesCrossed_46 rfl ?_
        replace hK := mm_bd hK; obtain ⟨v47, e47, hK⟩ := hK
        refine mm_getr C (pc := 47) (k := 32) inGX12 rfl (by decide) wd_2031 dX12_goesCrossed_47 e47 ?_
        refine mm_iload_n C (pc := 50) 2 dX12_goesCrossed_50 rfl ?_
        refine mm_aload_n C (pc := 51) 0 dX12_goesCrossed_51 rfl ?_
        replace hK := mm_bd hK; obtain ⟨v52, e52, hK⟩ := hK
        refine mm_getr C (pc := 52) (k := 31) inGX12 rfl (by decide) wd_2030 dX12_goesCrossed_52 e52 ?_
        refine mm_iload_n C (pc := 55) 2 dX12_goesCrossed_55 rfl ?_
        replace hK := mm_bd hK; obtain ⟨v56, e56, hK⟩ := hK
        refine mm_iald C (pc := 56) dX12_goesCrossed_56 e56 ?_
        replace hK := mm_bd hK; obtain ⟨h57, e57, hK⟩ := hK
        refine mm_iast C (pc := 57) dX12_goesCrossed_57 e57 ?_
        refine mm_iinc C (pc := 58) (v := (l3 + (1 : Int32))) (lv' := [(3, .int (l3 + (1 : Int32))), (0, va_rf l0), (2, .int l2)]) 2 dX12_goesCrossed_58 rfl rfl (by decide) rfl ?_
        refine mm_goto C (pc := 61) (tgt := 33) dX12_goesCrossed_61 (by decide) ?_
        refine mm_sub C [1, 2, 0] rfl ?_
        exact ih _ _ _ _ hK
def F_X12_goesCrossed (p : PT_X12_goesCrossed) (a0 : Option Nat) (a1 : Int32) (a2 : Int32) (h : MH) : Option MH := (gR h a0 12 46).bind fun v4 => (aI h v4 0 a1).bind fun v8 => if ((2 : Int32) * a2) = v8 then (mm_b2 (cV h a0 12 (F_X12_allAreOn a0 a2 h)) fun v14 h14 => if v14 = 0 then (some h14) else ((gI h14 a0 12 33).bind fun v23 => (pI h14 a0 12 33 (v23 + (1 : Int32))).bind fun h28 => F_X12_goesCrossed_33 p mm_N a0 a2 (0 : Int32) h28)) else (F_X12_goesCrossed_67 p mm_N a0 a1 a2 (0 : Int32) h)
set_option maxRecDepth 20000 in
set_option maxHeartbeats 4000000 in
theorem S_X12_goesCrossed {d : Nat} {p : PT_X12_goesCrossed} {d0 : Nat} (hd0 : d0 + 1 ≤ d) (hp : PH_X12_goesCrossed p d0) (hd : 9 ≤ d) {a0 : Option Nat} {a1 : Int32} {a2 : Int32} {h : MH} {hz : MH} (hK : F_X12_goesCrossed p a0 a1 a2 h = some hz) : mm_M yX12_goesCrossed cX12_goesCrossed 5 none d [va_rf a0, .int a1, .int a2] h (.inr none) hz := by
  refine mm_ofV (by decide +kernel) (by simp [lg_sl, mm_crf, mm_cti, mm_ctl]) (fun V C => ?_)
  rw [show lv_args 0 [va_rf a0, .int a1, .int a2] = [(0, va_rf a0), (1, .int a1), (2, .int a2)] by simp [lv_args, mm_crf, mm_cti, mm_ctl]]
  unfold F_X12_goesCrossed at hK
  refine mm_iconst C (pc := 0) (v := (2 : Int32)) dX12_goesCrossed_0 (by decide) ?_
  refine mm_iload_n C (pc := 1) 2 dX12_goesCrossed_1 rfl ?_
  refine mm_imul C (pc := 2) dX12_goesCrossed_2 ?_
  refine mm_aload_n C (pc := 3) 0 dX12_goesCrossed_3 rfl ?_
  replace hK := mm_bd hK; obtain ⟨v4, e4, hK⟩ := hK
  refine mm_getr C (pc := 4) (k := 46) inGX12 rfl (by decide) wd_2045 dX12_goesCrossed_4 e4 ?_
  refine mm_iload_n C (pc := 7) 1 dX12_goesCrossed_7 rfl ?_
  replace hK := mm_bd hK; obtain ⟨v8, e8, hK⟩ := hK
  refine mm_iald C (pc := 8) dX12_goesCrossed_8 e8 ?_
  refine mm_icmp_ne C (pc := 9) (tgt := 65) dX12_goesCrossed_9 (by decide) (fun hc => ?_) (fun hc => ?_)
  · replace hK := mm_in hc hK
    refine mm_iconst C (pc := 65) (v := (0 : Int32)) dX12_goesCrossed_65 (by decide) ?_
    refine mm_istore_n C (pc := 66) (i := 3) (lv' := [(3, .int (0 : Int32)), (0, va_rf a0), (1, .int a1), (2, .int a2)]) dX12_goesCrossed_66 rfl (by decide) rfl ?_
    refine mm_sub C [1, 2, 3, 0] rfl ?_
    exact w_X12_goesCrossed_67 hd0 hp hd C _ _ _ _ _ _ hK
  · replace hK := mm_ip hc hK
    refine mm_aload_n C (pc := 12) 0 dX12_goesCrossed_12 rfl ?_
    refine mm_iload_n C (pc := 13) 2 dX12_goesCrossed_13 rfl ?_
    replace hK := mm_b2s hK; obtain ⟨v14, h14, e14, hK⟩ := hK
    obtain ⟨o14, e14⟩ := cV_some e14
    refine mm_callV C (pc := 14) (d1 := 8) (As := [.int a2]) (st := []) (vk := (some (.int v14))) ((S_X12_allAreOn (by omega)) e14) tT_X12_allAreOn o14 (Or.inr ⟨_, rfl, rfl⟩) wd_2598 wd_2600 wd_127 (by omega) (by decide) rfl (by simp [mm_crf, mm_cti, mm_ctl]) rfl dX12_goesCrossed_14 ?_
    show V _ _ (.int v14 :: _) _
    refine mm_if_ne C (pc := 17) (tgt := 21) dX12_goesCrossed_17 (by decide) (fun hc => ?_) (fun hc => ?_)
    · replace hK := mm_in hc hK
      refine mm_aload_n C (pc := 21) 0 dX12_goesCrossed_21 rfl ?_
      refine mm_dup C (pc := 22) dX12_goesCrossed_22 mm_crf ?_
      replace hK := mm_bd hK; obtain ⟨v23, e23, hK⟩ := hK
      refine mm_geti C (pc := 23) (k := 33) inGX12 rfl (by decide) wd_2032 dX12_goesCrossed_23 e23 ?_
      refine mm_iconst C (pc := 26) (v := (1 : Int32)) dX12_goesCrossed_26 (by decide) ?_
      refine mm_iadd C (pc := 27) dX12_goesCrossed_27 ?_
      replace hK := mm_bd hK; obtain ⟨h28, e28, hK⟩ := hK
      refine mm_puti C (pc := 28) (k := 33) false (fun z => by cases z) inGX12 tyX12 tyX12_ok nmX12 rfl (by decide) wd_2032 rfl rfl dX12_goesCrossed_28 e28 ?_
      refine mm_iconst C (pc := 31) (v := (0 : Int32)) dX12_goesCrossed_31 (by decide) ?_
      refine mm_istore_n C (pc := 32) (i := 3) (lv' := [(3, .int (0 : Int32)), (0, va_rf a0), (1, .int a1), (2, .int a2)]) dX12_goesCrossed_32 rfl (by decide) rfl ?_
      refine mm_sub C [1, 3, 0] rfl ?_
      exact w_X12_goesCrossed_33 hd0 hp hd C _ _ _ _ _ hK
    · replace hK := mm_ip hc hK
      cases hK
      exact mm_vret C (pc := 20) rfl dX12_goesCrossed_20 rfl rfl
def G_X12_goesCrossed : Nat → PT_X12_goesCrossed
  | 0 => ((fun _ _ _ _ => none))
  | n + 1 => ((fun a0 a1 a2 h => F_X12_goesCrossed (G_X12_goesCrossed n) a0 a1 a2 h))
theorem S_G_X12_goesCrossed : ∀ n : Nat, PH_X12_goesCrossed (G_X12_goesCrossed n) (9 + n) := by
  intro n
  induction n with
  | zero => exact (fun d hd _ _ _ _ _ hK => (by cases hK))
  | succ n ih => exact (fun d hd _ _ _ _ _ hK => S_X12_goesCrossed (p := G_X12_goesCrossed n) (d0 := 9 + n) (by omega) ih (by omega) hK)
def F_X12_crossed_78 (s0 : Int32) (h : MH) : Option (Int32 × MH) := some (s0, h)
set_option maxRecDepth 20000 in
set_option maxHeartbeats 4000000 in
theorem w_X12_crossed_78 {d : Nat} {V : Nat → List (Nat × Value) → List Value → MH → Prop} {r : Int32} {hz : MH} (hd : 74 ≤ d) (C : mm_C d yX12_crossed cX12_crossed 3 (some .int) (.inr (some (.int r))) hz V) (s0 : Int32) (h : MH) (hK : F_X12_crossed_78 s0 h = some (r, hz)) : V 78 [] [.int s0] h := by
  unfold F_X12_crossed_78 at hK
  cases hK
  exact mm_iret C (pc := 78) rfl dX12_crossed_78 rfl rfl
def F_X12_crossed_41 (l0 : Option Nat) (l1 : Int32) (l2 : Int32) (h : MH) : Option (Int32 × MH) := (gI h l0 12 4).bind fun v42 => if v42 ≤ 0 then ((pI h l0 12 33 (0 : Int32)).bind fun h52 => (cV h52 l0 12 ((G_X12_goesCrossed 64) l0 l1 (0 : Int32) h52)).bind fun h58 => (gI h58 l0 12 33).bind fun v62 => if v62 = 0 then (F_X12_crossed_78 ((-1) : Int32) h58) else ((gR h58 l0 12 32).bind fun v73 => (aI h58 v73 0 l2).bind fun v77 => F_X12_crossed_78 v77 h58)) else (some ((0 : Int32), h))
set_option maxRecDepth 20000 in
set_option maxHeartbeats 4000000 in
theorem w_X12_crossed_41 {d : Nat} {V : Nat → List (Nat × Value) → List Value → MH → Prop} {r : Int32} {hz : MH} (hd : 74 ≤ d) (C : mm_C d yX12_crossed cX12_crossed 3 (some .int) (.inr (some (.int r))) hz V) (l0 : Option Nat) (l1 : Int32) (l2 : Int32) (h : MH) (hK : F_X12_crossed_41 l0 l1 l2 h = some (r, hz)) : V 41 [(0, va_rf l0), (1, .int l1), (2, .int l2)] [] h := by
  unfold F_X12_crossed_41 at hK
  refine mm_aload_n C (pc := 41) 0 dX12_crossed_41 rfl ?_
  replace hK := mm_bd hK; obtain ⟨v42, e42, hK⟩ := hK
  refine mm_geti C (pc := 42) (k := 4) inGX12 rfl (by decide) wd_2003 dX12_crossed_42 e42 ?_
  refine mm_if_le C (pc := 45) (tgt := 50) dX12_crossed_45 (by decide) (fun hc => ?_) (fun hc => ?_)
  · replace hK := mm_ip hc hK
    refine mm_aload_n C (pc := 50) 0 dX12_crossed_50 rfl ?_
    refine mm_iconst C (pc := 51) (v := (0 : Int32)) dX12_crossed_51 (by decide) ?_
    replace hK := mm_bd hK; obtain ⟨h52, e52, hK⟩ := hK
    refine mm_puti C (pc := 52) (k := 33) false (fun z => by cases z) inGX12 tyX12 tyX12_ok nmX12 rfl (by decide) wd_2032 rfl rfl dX12_crossed_52 e52 ?_
    refine mm_aload_n C (pc := 55) 0 dX12_crossed_55 rfl ?_
    refine mm_iload_n C (pc := 56) 1 dX12_crossed_56 rfl ?_
    refine mm_iconst C (pc := 57) (v := (0 : Int32)) dX12_crossed_57 (by decide) ?_
    replace hK := mm_bd hK; obtain ⟨h58, e58, hK⟩ := hK
    obtain ⟨o58, e58⟩ := cV_some e58
    refine mm_callV C (pc := 58) (d1 := 73) (As := [.int l1, .int (0 : Int32)]) (st := []) (vk := none) (((S_G_X12_goesCrossed 64) _ (by omega)) e58) tT_X12_goesCrossed o58 (Or.inr ⟨_, rfl, rfl⟩) wd_2594 wd_2596 wd_126 (by omega) (by decide) rfl (by simp [mm_crf, mm_cti, mm_ctl]) rfl dX12_crossed_58 ?_
    show V _ _ [] _
    refine mm_aload_n C (pc := 61) 0 dX12_crossed_61 rfl ?_
    replace hK := mm_bd hK; obtain ⟨v62, e62, hK⟩ := hK
    refine mm_geti C (pc := 62) (k := 33) inGX12 rfl (by decide) wd_2032 dX12_crossed_62 e62 ?_
    refine mm_if_ne C (pc := 65) (tgt := 72) dX12_crossed_65 (by decide) (fun hc => ?_) (fun hc => ?_)
    · replace hK := mm_in hc hK
      refine mm_aload_n C (pc := 72) 0 dX12_crossed_72 rfl ?_
      replace hK := mm_bd hK; obtain ⟨v73, e73, hK⟩ := hK
      refine mm_getr C (pc := 73) (k := 32) inGX12 rfl (by decide) wd_2031 dX12_crossed_73 e73 ?_
      refine mm_iload_n C (pc := 76) 2 dX12_crossed_76 rfl ?_
      replace hK := mm_bd hK; obtain ⟨v77, e77, hK⟩ := hK
      refine mm_iald C (pc := 77) dX12_crossed_77 e77 ?_
      refine mm_sub C [] rfl ?_
      exact w_X12_crossed_78 hd C _ _ hK
    · replace hK := mm_ip hc hK
      refine mm_iconst C (pc := 68) (v := ((-1) : Int32)) dX12_crossed_68 (by decide) ?_
      refine mm_goto C (pc := 69) (tgt := 78) dX12_crossed_69 (by decide) ?_
      refine mm_sub C [] rfl ?_
      exact w_X12_crossed_78 hd C _ _ hK
  · replace hK := mm_in hc hK
    refine mm_iconst C (pc := 48) (v := (0 : Int32)) dX12_crossed_48 (by decide) ?_
    cases hK
    exact mm_iret C (pc := 49) rfl dX12_crossed_49 rfl rfl
def F_X12_crossed (a0 : Option Nat) (a1 : Int32) (a2 : Int32) (h : MH) : Option (Int32 × MH) := mm_b2 (cV h a0 12 (F_X12_twosFault a0 a1 h)) fun v3 h3 => (pI h3 a0 12 4 v3).bind fun h6 => (gI h6 a0 12 4).bind fun v10 => if v10 = 0 then ((gR h6 a0 12 46).bind fun v20 => (aI h6 v20 0 a1).bind fun v24 => mm_b2 (F_X12_within (a2.toInt64) (0 : Int64) (((v24 / (2 : Int32)) - (1 : Int32)).toInt64) h6) fun v30 h30 => if v30 = 0 then ((pI h30 a0 12 4 (3 : Int32)).bind fun h38 => F_X12_crossed_41 a0 a1 a2 h38) else (F_X12_crossed_41 a0 a1 a2 h30)) else (F_X12_crossed_41 a0 a1 a2 h6)
set_option maxRecDepth 20000 in
set_option maxHeartbeats 4000000 in
theorem S_X12_crossed {d : Nat} (hd : 74 ≤ d) {a0 : Option Nat} {a1 : Int32} {a2 : Int32} {h : MH} {r : Int32} {hz : MH} (hK : F_X12_crossed a0 a1 a2 h = some (r, hz)) : mm_M yX12_crossed cX12_crossed 3 (some .int) d [va_rf a0, .int a1, .int a2] h (.inr (some (.int r))) hz := by
  refine mm_ofV (by decide +kernel) (by simp [lg_sl, mm_crf, mm_cti, mm_ctl]) (fun V C => ?_)
  rw [show lv_args 0 [va_rf a0, .int a1, .int a2] = [(0, va_rf a0), (1, .int a1), (2, .int a2)] by simp [lv_args, mm_crf, mm_cti, mm_ctl]]
  unfold F_X12_crossed at hK
  refine mm_aload_n C (pc := 0) 0 dX12_crossed_0 rfl ?_
  refine mm_aload_n C (pc := 1) 0 dX12_crossed_1 rfl ?_
  refine mm_iload_n C (pc := 2) 1 dX12_crossed_2 rfl ?_
  replace hK := mm_b2s hK; obtain ⟨v3, h3, e3, hK⟩ := hK
  obtain ⟨o3, e3⟩ := cV_some e3
  refine mm_callV C (pc := 3) (d1 := 4) (As := [.int a1]) (st := [va_rf a0]) (vk := (some (.int v3))) ((S_X12_twosFault (by omega)) e3) tT_X12_twosFault o3 (Or.inr ⟨_, rfl, rfl⟩) wd_2578 wd_2580 wd_123 (by omega) (by decide) rfl (by simp [mm_crf, mm_cti, mm_ctl]) rfl dX12_crossed_3 ?_
  show V _ _ (.int v3 :: _) _
  replace hK := mm_bd hK; obtain ⟨h6, e6, hK⟩ := hK
  refine mm_puti C (pc := 6) (k := 4) false (fun z => by cases z) inGX12 tyX12 tyX12_ok nmX12 rfl (by decide) wd_2003 rfl rfl dX12_crossed_6 e6 ?_
  refine mm_aload_n C (pc := 9) 0 dX12_crossed_9 rfl ?_
  replace hK := mm_bd hK; obtain ⟨v10, e10, hK⟩ := hK
  refine mm_geti C (pc := 10) (k := 4) inGX12 rfl (by decide) wd_2003 dX12_crossed_10 e10 ?_
  refine mm_if_ne C (pc := 13) (tgt := 41) dX12_crossed_13 (by decide) (fun hc => ?_) (fun hc => ?_)
  · replace hK := mm_in hc hK
    exact w_X12_crossed_41 hd C _ _ _ _ hK
  · replace hK := mm_ip hc hK
    refine mm_iload_n C (pc := 16) 2 dX12_crossed_16 rfl ?_
    refine mm_i2l C (pc := 17) dX12_crossed_17 ?_
    refine mm_lconst C (pc := 18) (v := (0 : Int64)) dX12_crossed_18 (by decide) ?_
    refine mm_aload_n C (pc := 19) 0 dX12_crossed_19 rfl ?_
    replace hK := mm_bd hK; obtain ⟨v20, e20, hK⟩ := hK
    refine mm_getr C (pc := 20) (k := 46) inGX12 rfl (by decide) wd_2045 dX12_crossed_20 e20 ?_
    refine mm_iload_n C (pc := 23) 1 dX12_crossed_23 rfl ?_
    replace hK := mm_bd hK; obtain ⟨v24, e24, hK⟩ := hK
    refine mm_iald C (pc := 24) dX12_crossed_24 e24 ?_
    refine mm_iconst C (pc := 25) (v := (2 : Int32)) dX12_crossed_25 (by decide) ?_
    refine mm_idiv C (pc := 26) dX12_crossed_26 (by decide) ?_
    refine mm_iconst C (pc := 27) (v := (1 : Int32)) dX12_crossed_27 (by decide) ?_
    refine mm_isub C (pc := 28) dX12_crossed_28 ?_
    refine mm_i2l C (pc := 29) dX12_crossed_29 ?_
    replace hK := mm_b2s hK; obtain ⟨v30, h30, e30, hK⟩ := hK
    refine mm_callS C (pc := 30) (d1 := 1) (As := [.long (a2.toInt64), .long (0 : Int64), .long (((v24 / (2 : Int32)) - (1 : Int32)).toInt64)]) (st := []) (vk := (some (.int v30))) ((S_X12_within (by omega)) e30) tT_X12_within wd_2157 wd_2158 (by omega) (by decide) rfl (by simp [mm_crf, mm_cti, mm_ctl]) rfl dX12_crossed_30 ?_
    show V _ _ (.int v30 :: _) _
    refine mm_if_ne C (pc := 33) (tgt := 41) dX12_crossed_33 (by decide) (fun hc => ?_) (fun hc => ?_)
    · replace hK := mm_in hc hK
      exact w_X12_crossed_41 hd C _ _ _ _ hK
    · replace hK := mm_ip hc hK
      refine mm_aload_n C (pc := 36) 0 dX12_crossed_36 rfl ?_
      refine mm_iconst C (pc := 37) (v := (3 : Int32)) dX12_crossed_37 (by decide) ?_
      replace hK := mm_bd hK; obtain ⟨h38, e38, hK⟩ := hK
      refine mm_puti C (pc := 38) (k := 4) false (fun z => by cases z) inGX12 tyX12 tyX12_ok nmX12 rfl (by decide) wd_2003 rfl rfl dX12_crossed_38 e38 ?_
      exact w_X12_crossed_41 hd C _ _ _ _ hK
