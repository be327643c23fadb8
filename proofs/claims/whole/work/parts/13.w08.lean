section MLW
variable {d : Nat} {y : MethodName} {cc : ByteArray} {nL : Nat} {ret : Option FieldType} {oz : String ⊕ Option Value} {hz : MH} {V : Nat → List (Nat × Value) → List Value → MH → Prop} {pc : Nat} {lv lv' : List (Nat × Value)} {st : List Value} {h h1 : MH} {r : Option Nat}
theorem mm_ldcwS (C : mm_C d y cc nL ret oz hz V) {idx i : Nat} {tx : String} {bs : List Int32} (hi : i < 51) (hq : mm_strs[i]? = some (y.cls, idx, tx, bs)) (hd : decode cc pc = .ok (.ldc_w idx, 3)) (kk : V (pc + 3) lv (va_rf (some i) :: st) h) : V pc lv st h := by
  obtain ⟨p, l, e, s, m, args, below, meth, c, h0, G, ⟨hsl, hx, hb, hml, hr, hlk, hown, hnm, htab⟩, hts, hSt, rfl⟩ := C
  intro H locs ls hls a1 a2 a3 a4
  have k9 := kk H locs ls hls a1 a2 a3 a4
  have e2 : mm_v G (va_rf (some i)) = .ref (G.2.2.1 i) := by
    show Value.ref (mm_ad G i) = _
    unfold mm_ad; rw [if_pos (by omega)]
  rw [List.map_cons, e2] at k9
  have hz := hSt.2.2.2.1 i _ hq
  intro T hT X
  obtain ⟨t, b1, b2⟩ := k9 T hT X
  exact ⟨t, X.ldcStringW hx hown (text := tx) (a := G.2.2.1 i) hz.1 hz.2 (g := F0 m pc ls _) rfl (by rw [hb]; exact hd) t b1, b2⟩
end MLW
def F_X12_lawWord_117 (s0 : Int32) (h : MH) : Option (Int32 × MH) := some (s0, h)
set_option maxRecDepth 20000 in
set_option maxHeartbeats 4000000 in
theorem w_X12_lawWord_117 {d : Nat} {V : Nat → List (Nat × Value) → List Value → MH → Prop} {r : Int32} {hz : MH} (hd : 7 ≤ d) (C : mm_C d yX12_lawWord cX12_lawWord 1 (some .int) (.inr (some (.int r))) hz V) (s0 : Int32) (h : MH) (hK : F_X12_lawWord_117 s0 h = some (r, hz)) : V 117 [] [.int s0] h := by
  unfold F_X12_lawWord_117 at hK
  cases hK
  exact mm_iret C (pc := 117) rfl dX12_lawWord_117 rfl rfl
def F_X12_lawWord_35 (s0 : Int32) (h : MH) : Option (Int32 × MH) := some (s0, h)
set_option maxRecDepth 20000 in
set_option maxHeartbeats 4000000 in
theorem w_X12_lawWord_35 {d : Nat} {V : Nat → List (Nat × Value) → List Value → MH → Prop} {r : Int32} {hz : MH} (hd : 7 ≤ d) (C : mm_C d yX12_lawWord cX12_lawWord 1 (some .int) (.inr (some (.int r))) hz V) (s0 : Int32) (h : MH) (hK : F_X12_lawWord_35 s0 h = some (r, hz)) : V 35 [] [.int s0] h := by
  unfold F_X12_lawWord_35 at hK
  cases hK
  exact mm_iret C (pc := 35) rfl dX12_lawWord_35 rfl rfl
def F_X12_lawWord (a0 : Option Nat) (h : MH) : Option (Int32 × MH) := (gI h a0 12 17).bind fun v1 => if v1 = (4 : Int32) then (mm_b2 (cV h a0 12 (F_X12_took a0 (some 42 : Option Nat) h)) fun v11 h11 => if v11 = 0 then (mm_b2 (cV h11 a0 12 (F_X12_took a0 (some 43 : Option Nat) h11)) fun v24 h24 => if v24 = 0 then (F_X12_lawWord_35 ((-1) : Int32) h24) else (F_X12_lawWord_35 (1 : Int32) h24)) else (F_X12_lawWord_35 (0 : Int32) h11)) else (mm_b2 (cV h a0 12 (F_X12_took a0 (some 44 : Option Nat) h)) fun v39 h39 => if v39 = 0 then (mm_b2 (cV h39 a0 12 (F_X12_took a0 (some 37 : Option Nat) h39)) fun v50 h50 => if v50 = 0 then (mm_b2 (cV h50 a0 12 (F_X12_took a0 (some 40 : Option Nat) h50)) fun v61 h61 => if v61 = 0 then (mm_b2 (cV h61 a0 12 (F_X12_took a0 (some 36 : Option Nat) h61)) fun v72 h72 => if v72 = 0 then ((gI h72 a0 12 17).bind fun v81 => if v81 = (3 : Int32) then (some (((-1) : Int32), h72)) else (mm_b2 (cV h72 a0 12 (F_X12_took a0 (some 45 : Option Nat) h72)) fun v93 h93 => if v93 = 0 then (mm_b2 (cV h93 a0 12 (F_X12_took a0 (some 46 : Option Nat) h93)) fun v106 h106 => if v106 = 0 then (F_X12_lawWord_117 ((-1) : Int32) h106) else (F_X12_lawWord_117 (5 : Int32) h106)) else (F_X12_lawWord_117 (4 : Int32) h93))) else (some ((3 : Int32), h72))) else (some ((2 : Int32), h61))) else (some ((1 : Int32), h50))) else (some ((0 : Int32), h39)))
set_option maxRecDepth 20000 in
set_option maxHeartbeats 4000000 in
theorem S_X12_lawWord {d : Nat} (hd : 7 ≤ d) {a0 : Option Nat} {h : MH} {r : Int32} {hz : MH} (hK : F_X12_lawWord a0 h = some (r, hz)) : mm_M yX12_lawWord cX12_lawWord 1 (some .int) d [va_rf a0] h (.inr (some (.int r))) hz := by
  refine mm_ofV (by decide +kernel) (by simp [lg_sl, mm_crf, mm_cti, mm_ctl]) (fun V C => ?_)
  rw [show lv_args 0 [va_rf a0] = [(0, va_rf a0)] by simp [lv_args, mm_crf, mm_cti, mm_ctl]]
  unfold F_X12_lawWord at hK
  refine mm_aload_n C (pc := 0) 0 dX12_lawWord_0 rfl ?_
  replace hK := mm_bd hK; obtain ⟨v1, e1, hK⟩ := hK
  refine mm_geti C (pc := 1) (k := 17) inGX12 rfl (by decide) wd_2016 dX12_lawWord_1 e1 ?_
  refine mm_iconst C (pc := 4) (v := (4 : Int32)) dX12_lawWord_4 (by decide) ?_
  refine mm_icmp_ne C (pc := 5) (tgt := 36) dX12_lawWord_5 (by decide) (fun hc => ?_) (fun hc => ?_)
  · replace hK := mm_in hc hK
    refine mm_aload_n C (pc := 36) 0 dX12_lawWord_36 rfl ?_
    refine mm_ldcS C (pc := 37) (i := 44) (by decide) (by rfl) dX12_lawWord_37 ?_
    replace hK := mm_b2s hK; obtain ⟨v39, h39, e39, hK⟩ := hK
    obtain ⟨o39, e39⟩ := cV_some e39
    refine mm_callV C (pc := 39) (d1 := 6) (As := [va_rf (some 44 : Option Nat)]) (st := []) (vk := (some (.int v39))) ((S_X12_took (by omega)) e39) tT_X12_took o39 (Or.inr ⟨_, rfl, rfl⟩) wd_2186 wd_2188 wd_65 (by omega) (by decide) rfl (by simp [mm_crf, mm_cti, mm_ctl]) rfl dX12_lawWord_39 ?_
    show V _ _ (.int v39 :: _) _
    refine mm_if_eq C (pc := 42) (tgt := 47) dX12_lawWord_42 (by decide) (fun hc => ?_) (fun hc => ?_)
    · replace hK := mm_ip hc hK
      refine mm_aload_n C (pc := 47) 0 dX12_lawWord_47 rfl ?_
      refine mm_ldcS C (pc := 48) (i := 37) (by decide) (by rfl) dX12_lawWord_48 ?_
      replace hK := mm_b2s hK; obtain ⟨v50, h50, e50, hK⟩ := hK
      obtain ⟨o50, e50⟩ := cV_some e50
      refine mm_callV C (pc := 50) (d1 := 6) (As := [va_rf (some 37 : Option Nat)]) (st := []) (vk := (some (.int v50))) ((S_X12_took (by omega)) e50) tT_X12_took o50 (Or.inr ⟨_, rfl, rfl⟩) wd_2186 wd_2188 wd_65 (by omega) (by decide) rfl (by simp [mm_crf, mm_cti, mm_ctl]) rfl dX12_lawWord_50 ?_
      show V _ _ (.int v50 :: _) _
      refine mm_if_eq C (pc := 53) (tgt := 58) dX12_lawWord_53 (by decide) (fun hc => ?_) (fun hc => ?_)
      · replace hK := mm_ip hc hK
        refine mm_aload_n C (pc := 58) 0 dX12_lawWord_58 rfl ?_
        refine mm_ldcS C (pc := 59) (i := 40) (by decide) (by rfl) dX12_lawWord_59 ?_
        replace hK := mm_b2s hK; obtain ⟨v61, h61, e61, hK⟩ := hK
        obtain ⟨o61, e61⟩ := cV_some e61
        refine mm_callV C (pc := 61) (d1 := 6) (As := [va_rf (some 40 : Option Nat)]) (st := []) (vk := (some (.int v61))) ((S_X12_took (by omega)) e61) tT_X12_took o61 (Or.inr ⟨_, rfl, rfl⟩) wd_2186 wd_2188 wd_65 (by omega) (by decide) rfl (by simp [mm_crf, mm_cti, mm_ctl]) rfl dX12_lawWord_61 ?_
        show V _ _ (.int v61 :: _) _
        refine mm_if_eq C (pc := 64) (tgt := 69) dX12_lawWord_64 (by decide) (fun hc => ?_) (fun hc => ?_)
        · replace hK := mm_ip hc hK
          refine mm_aload_n C (pc := 69) 0 dX12_lawWord_69 rfl ?_
          refine mm_ldcS C (pc := 70) (i := 36) (by decide) (by rfl) dX12_lawWord_70 ?_
          replace hK := mm_b2s hK; obtain ⟨v72, h72, e72, hK⟩ := hK
          obtain ⟨o72, e72⟩ := cV_some e72
          refine mm_callV C (pc := 72) (d1 := 6) (As := [va_rf (some 36 : Option Nat)]) (st := []) (vk := (some (.int v72))) ((S_X12_took (by omega)) e72) tT_X12_took o72 (Or.inr ⟨_, rfl, rfl⟩) wd_2186 wd_2188 wd_65 (by omega) (by decide) rfl (by simp [mm_crf, mm_cti, mm_ctl]) rfl dX12_lawWord_72 ?_
          show V _ _ (.int v72 :: _) _
          refine mm_if_eq C (pc := 75) (tgt := 80) dX12_lawWord_75 (by decide) (fun hc => ?_) (fun hc => ?_)
          · replace hK := mm_ip hc hK
            refine mm_aload_n C (pc := 80) 0 dX12_lawWord_80 rfl ?_
            replace hK := mm_bd hK; obtain ⟨v81, e81, hK⟩ := hK
            refine mm_geti C (pc := 81) (k := 17) inGX12 rfl (by decide) wd_2016 dX12_lawWord_81 e81 ?_
            refine mm_iconst C (pc := 84) (v := (3 : Int32)) dX12_lawWord_84 (by decide) ?_
            refine mm_icmp_ne C (pc := 85) (tgt := 90) dX12_lawWord_85 (by decide) (fun hc => ?_) (fun hc => ?_)
            · replace hK := mm_in hc hK
              refine mm_aload_n C (pc := 90) 0 dX12_lawWord_90 rfl ?_
              refine mm_ldcS C (pc := 91) (i := 45) (by decide) (by rfl) dX12_lawWord_91 ?_
              replace hK := mm_b2s hK; obtain ⟨v93, h93, e93, hK⟩ := hK
              obtain ⟨o93, e93⟩ := cV_some e93
              refine mm_callV C (pc := 93) (d1 := 6) (As := [va_rf (some 45 : Option Nat)]) (st := []) (vk := (some (.int v93))) ((S_X12_took (by omega)) e93) tT_X12_took o93 (Or.inr ⟨_, rfl, rfl⟩) wd_2186 wd_2188 wd_65 (by omega) (by decide) rfl (by simp [mm_crf, mm_cti, mm_ctl]) rfl dX12_lawWord_93 ?_
              show V _ _ (.int v93 :: _) _
              refine mm_if_eq C (pc := 96) (tgt := 103) dX12_lawWord_96 (by decide) (fun hc => ?_) (fun hc => ?_)
              · replace hK := mm_ip hc hK
                refine mm_aload_n C (pc := 103) 0 dX12_lawWord_103 rfl ?_
                refine mm_ldcS C (pc := 104) (i := 46) (by decide) (by rfl) dX12_lawWord_104 ?_
                replace hK := mm_b2s hK; obtain ⟨v106, h106, e106, hK⟩ := hK
                obtain ⟨o106, e106⟩ := cV_some e106
                refine mm_callV C (pc := 106) (d1 := 6) (As := [va_rf (some 46 : Option Nat)]) (st := []) (vk := (some (.int v106))) ((S_X12_took (by omega)) e106) tT_X12_took o106 (Or.inr ⟨_, rfl, rfl⟩) wd_2186 wd_2188 wd_65 (by omega) (by decide) rfl (by simp [mm_crf, mm_cti, mm_ctl]) rfl dX12_lawWord_106 ?_
                show V _ _ (.int v106 :: _) _
                refine mm_if_eq C (pc := 109) (tgt := 116) dX12_lawWord_109 (by decide) (fun hc => ?_) (fun hc => ?_)
                · replace hK := mm_ip hc hK
                  refine mm_iconst C (pc := 116) (v := ((-1) : Int32)) dX12_lawWord_116 (by decide) ?_
                  refine mm_sub C [] rfl ?_
                  exact w_X12_lawWord_117 hd C _ _ hK
                · replace hK := mm_in hc hK
                  refine mm_iconst C (pc := 112) (v := (5 : Int32)) dX12_lawWord_112 (by decide) ?_
                  refine mm_goto C (pc := 113) (tgt := 117) dX12_lawWord_113 (by decide) ?_
                  refine mm_sub C [] rfl ?_
                  exact w_X12_lawWord_117 hd C _ _ hK
              · replace hK := mm_in hc hK
                refine mm_iconst C (pc := 99) (v := (4 : Int32)) dX12_lawWord_99 (by decide) ?_
                refine mm_goto C (pc := 100) (tgt := 117) dX12_lawWord_100 (by decide) ?_
                refine mm_sub C [] rfl ?_
                exact w_X12_lawWord_117 hd C _ _ hK
            · replace hK := mm_ip hc hK
              refine mm_iconst C (pc := 88) (v := ((-1) : Int32)) dX12_lawWord_88 (by decide) ?_
              cases hK
              exact mm_iret C (pc := 89) rfl dX12_lawWord_89 rfl rfl
          · replace hK := mm_in hc hK
            refine mm_iconst C (pc := 78) (v := (3 : Int32)) dX12_lawWord_78 (by decide) ?_
            cases hK
            exact mm_iret C (pc := 79) rfl dX12_lawWord_79 rfl rfl
        · replace hK := mm_in hc hK
          refine mm_iconst C (pc := 67) (v := (2 : Int32)) dX12_lawWord_67 (by decide) ?_
          cases hK
          exact mm_iret C (pc := 68) rfl dX12_lawWord_68 rfl rfl
      · replace hK := mm_in hc hK
        refine mm_iconst C (pc := 56) (v := (1 : Int32)) dX12_lawWord_56 (by decide) ?_
        cases hK
        exact mm_iret C (pc := 57) rfl dX12_lawWord_57 rfl rfl
    · replace hK := mm_in hc hK
      refine mm_iconst C (pc := 45) (v := (0 : Int32)) dX12_lawWord_45 (by decide) ?_
      cases hK
      exact mm_iret C (pc := 46) rfl dX12_lawWord_46 rfl rfl
  · replace hK := mm_ip hc hK
    refine mm_aload_n C (pc := 8) 0 dX12_lawWord_8 rfl ?_
    refine mm_ldcS C (pc := 9) (i := 42) (by decide) (by rfl) dX12_lawWord_9 ?_
    replace hK := mm_b2s hK; obtain ⟨v11, h11, e11, hK⟩ := hK
    obtain ⟨o11, e11⟩ := cV_some e11
    refine mm_callV C (pc := 11) (d1 := 6) (As := [va_rf (some 42 : Option Nat)]) (st := []) (vk := (some (.int v11))) ((S_X12_took (by omega)) e11) tT_X12_took o11 (Or.inr ⟨_, rfl, rfl⟩) wd_2186 wd_2188 wd_65 (by omega) (by decide) rfl (by simp [mm_crf, mm_cti, mm_ctl]) rfl dX12_lawWord_11 ?_
    show V _ _ (.int v11 :: _) _
    refine mm_if_eq C (pc := 14) (tgt := 21) dX12_lawWord_14 (by decide) (fun hc => ?_) (fun hc => ?_)
    · replace hK := mm_ip hc hK
      refine mm_aload_n C (pc := 21) 0 dX12_lawWord_21 rfl ?_
      refine mm_ldcS C (pc := 22) (i := 43) (by decide) (by rfl) dX12_lawWord_22 ?_
      replace hK := mm_b2s hK; obtain ⟨v24, h24, e24, hK⟩ := hK
      obtain ⟨o24, e24⟩ := cV_some e24
      refine mm_callV C (pc := 24) (d1 := 6) (As := [va_rf (some 43 : Option Nat)]) (st := []) (vk := (some (.int v24))) ((S_X12_took (by omega)) e24) tT_X12_took o24 (Or.inr ⟨_, rfl, rfl⟩) wd_2186 wd_2188 wd_65 (by omega) (by decide) rfl (by simp [mm_crf, mm_cti, mm_ctl]) rfl dX12_lawWord_24 ?_
      show V _ _ (.int v24 :: _) _
      refine mm_if_eq C (pc := 27) (tgt := 34) dX12_lawWord_27 (by decide) (fun hc => ?_) (fun hc => ?_)
      · replace hK := mm_ip hc hK
        refine mm_iconst C (pc := 34) (v := ((-1) : Int32)) dX12_lawWord_34 (by decide) ?_
        refine mm_sub C [] rfl ?_
        exact w_X12_lawWord_35 hd C _ _ hK
      · replace hK := mm_in hc hK
        refine mm_iconst C (pc := 30) (v := (1 : Int32)) dX12_lawWord_30 (by decide) ?_
        refine mm_goto C (pc := 31) (tgt := 35) dX12_lawWord_31 (by decide) ?_
        refine mm_sub C [] rfl ?_
        exact w_X12_lawWord_35 hd C _ _ hK
    · replace hK := mm_in hc hK
      refine mm_iconst C (pc := 17) (v := (0 : Int32)) dX12_lawWord_17 (by decide) ?_
      refine mm_goto C (pc := 18) (tgt := 35) dX12_lawWord_18 (by decide) ?_
      refine mm_sub C [] rfl ?_
      exact w_X12_lawWord_35 hd C _ _ hK
theorem wd_2261 : Cond.code yX12_lawWord cX12_lawWord 1 (some .int) ∈ lw_good := mm_wd 2261 (by decide +kernel) (by decide +kernel)
theorem tT_X12_lawWord : mm_T yX12_lawWord cX12_lawWord 1 (some .int) 0 := ⟨wd_2261, wd_170, by decide +kernel, by decide +kernel, by decide +kernel, by decide +kernel⟩
theorem wd_2258 : Cond.methodLink RX12 211 yX12_lawWord ∈ lw_good := mm_wd 2258 (by decide +kernel) (by decide +kernel)
theorem wd_2260 : Cond.instanceMethod yX12_lawWord ∈ lw_good := mm_wd 2260 (by decide +kernel) (by decide +kernel)
theorem wd_80 : Cond.selects RX12 yX12_lawWord yX12_lawWord ∈ lw_good := mm_wd 80 (by decide +kernel) (by decide +kernel)
theorem wd_2274 : Cond.code yX12_isSign cX12_isSign 2 (some .boolean) ∈ lw_good := mm_wd 2274 (by decide +kernel) (by decide +kernel)
theorem tT_X12_isSign : mm_T yX12_isSign cX12_isSign 2 (some .boolean) 1 := ⟨wd_2274, wd_170, by decide +kernel, by decide +kernel, by decide +kernel, by decide +kernel⟩
theorem wd_2271 : Cond.methodLink RX12 180 yX12_isSign ∈ lw_good := mm_wd 2271 (by decide +kernel) (by decide +kernel)
theorem wd_2273 : Cond.instanceMethod yX12_isSign ∈ lw_good := mm_wd 2273 (by decide +kernel) (by decide +kernel)
theorem wd_82 : Cond.selects RX12 yX12_isSign yX12_isSign ∈ lw_good := mm_wd 82 (by decide +kernel) (by decide +kernel)
theorem wd_2203 : Cond.code yX12_number cX12_number 4 (some .int) ∈ lw_good := mm_wd 2203 (by decide +kernel) (by decide +kernel)
theorem tT_X12_number : mm_T yX12_number cX12_number 4 (some .int) 2 := ⟨wd_2203, wd_170, by decide +kernel, by decide +kernel, by decide +kernel, by decide +kernel⟩
theorem wd_2200 : Cond.methodLink RX12 214 yX12_number ∈ lw_good := mm_wd 2200 (by decide +kernel) (by decide +kernel)
theorem wd_2202 : Cond.instanceMethod yX12_number ∈ lw_good := mm_wd 2202 (by decide +kernel) (by decide +kernel)
theorem wd_68 : Cond.selects RX12 yX12_number yX12_number ∈ lw_good := mm_wd 68 (by decide +kernel) (by decide +kernel)
theorem wd_2270 : Cond.code yX12_laysStep cX12_laysStep 2 none ∈ lw_good := mm_wd 2270 (by decide +kernel) (by decide +kernel)
theorem tT_X12_laysStep : mm_T yX12_laysStep cX12_laysStep 2 none 1 := ⟨wd_2270, wd_170, by decide +kernel, by decide +kernel, by decide +kernel, by decide +kernel⟩
theorem wd_2267 : Cond.methodLink RX12 167 yX12_laysStep ∈ lw_good := mm_wd 2267 (by decide +kernel) (by decide +kernel)
theorem wd_2269 : Cond.instanceMethod yX12_laysStep ∈ lw_good := mm_wd 2269 (by decide +kernel) (by decide +kernel)
theorem wd_81 : Cond.selects RX12 yX12_laysStep yX12_laysStep ∈ lw_good := mm_wd 81 (by decide +kernel) (by decide +kernel)
theorem wd_2278 : Cond.code yX12_goesIn cX12_goesIn 1 none ∈ lw_good := mm_wd 2278 (by decide +kernel) (by decide +kernel)
theorem tT_X12_goesIn : mm_T yX12_goesIn cX12_goesIn 1 none 0 := ⟨wd_2278, wd_170, by decide +kernel, by decide +kernel, by decide +kernel, by decide +kernel⟩
theorem wd_2275 : Cond.methodLink RX12 177 yX12_goesIn ∈ lw_good := mm_wd 2275 (by decide +kernel) (by decide +kernel)
theorem wd_2277 : Cond.instanceMethod yX12_goesIn ∈ lw_good := mm_wd 2277 (by decide +kernel) (by decide +kernel)
theorem wd_83 : Cond.selects RX12 yX12_goesIn yX12_goesIn ∈ lw_good := mm_wd 83 (by decide +kernel) (by decide +kernel)
theorem wd_2249 : Cond.code yX12_readSum cX12_readSum 2 none ∈ lw_good := mm_wd 2249 (by decide +kernel) (by decide +kernel)
theorem tT_X12_readSum : mm_T yX12_readSum cX12_readSum 2 none 0 := ⟨wd_2249, wd_170, by decide +kernel, by decide +kernel, by decide +kernel, by decide +kernel⟩
theorem wd_2246 : Cond.methodLink RX12 186 yX12_readSum ∈ lw_good := mm_wd 2246 (by decide +kernel) (by decide +kernel)
theorem wd_2248 : Cond.instanceMethod yX12_readSum ∈ lw_good := mm_wd 2248 (by decide +kernel) (by decide +kernel)
theorem wd_77 : Cond.selects RX12 yX12_readSum yX12_readSum ∈ lw_good := mm_wd 77 (by decide +kernel) (by decide +kernel)
theorem wd_2253 : Cond.code yX12_readTerm cX12_readTerm 1 none ∈ lw_good := mm_wd 2253 (by decide +kernel) (by decide +kernel)
theorem tT_X12_readTerm : mm_T yX12_readTerm cX12_readTerm 1 none 0 := ⟨wd_2253, wd_170, by decide +kernel, by decide +kernel, by decide +kernel, by decide +kernel⟩
theorem wd_2250 : Cond.methodLink RX12 189 yX12_readTerm ∈ lw_good := mm_wd 2250 (by decide +kernel) (by decide +kernel)
theorem wd_2252 : Cond.instanceMethod yX12_readTerm ∈ lw_good := mm_wd 2252 (by decide +kernel) (by decide +kernel)
theorem wd_78 : Cond.selects RX12 yX12_readTerm yX12_readTerm ∈ lw_good := mm_wd 78 (by decide +kernel) (by decide +kernel)
theorem wd_2257 : Cond.code yX12_readAtom cX12_readAtom 3 none ∈ lw_good := mm_wd 2257 (by decide +kernel) (by decide +kernel)
theorem tT_X12_readAtom : mm_T yX12_readAtom cX12_readAtom 3 none 0 := ⟨wd_2257, wd_170, by decide +kernel, by decide +kernel, by decide +kernel, by decide +kernel⟩
theorem wd_2254 : Cond.methodLink RX12 192 yX12_readAtom ∈ lw_good := mm_wd 2254 (by decide +kernel) (by decide +kernel)
theorem wd_2256 : Cond.instanceMethod yX12_readAtom ∈ lw_good := mm_wd 2256 (by decide +kernel) (by decide +kernel)
theorem wd_79 : Cond.selects RX12 yX12_readAtom yX12_readAtom ∈ lw_good := mm_wd 79 (by decide +kernel) (by decide +kernel)
abbrev PT_X12_readAtom : Type := (Option Nat → MH → Option MH) × (Option Nat → MH → Option MH) × (Option Nat → MH → Option MH)
def PH_X12_readAtom (p : PT_X12_readAtom) (d0 : Nat) : Prop := (∀ d : Nat, d0 ≤ d → ∀ {a0 : Option Nat} {h : MH} {hz : MH}, p.1 a0 h = some hz → mm_M yX12_readAtom cX12_readAtom 3 none d [va_rf a0] h (.inr none) hz) ∧ (∀ d : Nat, d0 ≤ d → ∀ {a0 : Option Nat} {h : MH} {hz : MH}, p.2.1 a0 h = some hz → mm_M yX12_readSum cX12_readSum 2 none d [va_rf a0] h (.inr none) hz) ∧ (∀ d : Nat, d0 ≤ d → ∀ {a0 : Option Nat} {h : MH} {hz : MH}, p.2.2 a0 h = some hz → mm_M yX12_readTerm cX12_readTerm 1 none d [va_rf a0] h (.inr none) hz)
def F_X12_readAtom_83 (p : PT_X12_readAtom) (h : MH) : Option MH := some h
set_option maxRecDepth 20000 in
set_option maxHeartbeats 4000000 in
theorem w_X12_readAtom_83 {d : Nat} {V : Nat → List (Nat × Value) → List Value → MH → Prop} {hz : MH} {p : PT_X12_readAtom} {d0 : Nat} (hd0 : d0 + 1 ≤ d) (hp : PH_X12_readAtom p d0) (hd : 8 ≤ d) (C : mm_C d yX12_readAtom cX12_readAtom 3 none (.inr none) hz V) (h : MH) (hK : F_X12_readAtom_83 p  h = some hz) : V 83 [] [] h := by
  unfold F_X12_readAtom_83 at hK
  cases hK
  exact mm_vret C (pc := 83) rfl dX12_readAtom_83 rfl rfl
def F_X12_readAtom (p : PT_X12_readAtom) (a0 : Option Nat) (h : MH) : Option MH := (gI h a0 12 12).bind fun v1 => if v1 = 0 then (mm_b2 (cV h a0 12 (F_X12_lawWord a0 h)) fun v9 h9 => if v9 = ((-1) : Int32) then (mm_b2 (cV h9 a0 12 (F_X12_isSign a0 (40 : Int32) h9)) fun v32 h32 => if v32 = 0 then (mm_b2 (cV h32 a0 12 (F_X12_number a0 (0 : Int32) (999 : Int32) h32)) fun v70 h70 => (cV h70 a0 12 (F_X12_laysStep a0 ((1000 : Int32) + v70) h70)).bind fun h80 => F_X12_readAtom_83 p h80) else ((cV h32 a0 12 (F_X12_goesIn a0 h32)).bind fun h39 => (cV h39 a0 12 (p.2.1 a0 h39)).bind fun h43 => (cV h43 a0 12 (F_X12_mustSign a0 (41 : Int32) h43)).bind fun h49 => (gI h49 a0 12 16).bind fun v54 => (pI h49 a0 12 16 (v54 - (1 : Int32))).bind fun h59 => F_X12_readAtom_83 p h59)) else ((cV h9 a0 12 (F_X12_laysStep a0 ((100 : Int32) + v9) h9)).bind fun h23 => F_X12_readAtom_83 p h23)) else (some h)
set_option maxRecDepth 20000 in
set_option maxHeartbeats 4000000 in
theorem S_X12_readAtom {d : Nat} {p : PT_X12_readAtom} {d0 : Nat} (hd0 : d0 + 1 ≤ d) (hp : PH_X12_readAtom p d0) (hd : 8 ≤ d) {a0 : Option Nat} {h : MH} {hz : MH} (hK : F_X12_readAtom p a0 h = some hz) : mm_M yX12_readAtom cX12_readAtom 3 none d [va_rf a0] h (.inr none) hz := by
  refine mm_ofV (by decide +kernel) (by simp [lg_sl, mm_crf, mm_cti, mm_ctl]) (fun V C => ?_)
  rw [show lv_args 0 [va_rf a0] = [(0, va_rf a0)] by simp [lv_args, mm_crf, mm_cti, mm_ctl]]
  unfold F_X12_readAtom at hK
  refine mm_aload_n C (pc := 0) 0 dX12_readAtom_0 rfl ?_
  replace hK := mm_bd hK; obtain ⟨v1, e1, hK⟩ := hK
  refine mm_geti C (pc := 1) (k := 12) inGX12 rfl (by decide) wd_2011 dX12_readAtom_1 e1 ?_
  refine mm_if_eq C (pc := 4) (tgt := 8) dX12_readAtom_4 (by decide) (fun hc => ?_) (fun hc => ?_)
  · replace hK := mm_ip hc hK
    refine mm_aload_n C (pc := 8) 0 dX12_readAtom_8 rfl ?_
    replace hK := mm_b2s hK; obtain ⟨v9, h9, e9, hK⟩ := hK
    obtain ⟨o9, e9⟩ := cV_some e9
    refine mm_callV C (pc := 9) (d1 := 7) (As := []) (st := []) (vk := (some (.int v9))) ((S_X12_lawWord (by omega)) e9) tT_X12_lawWord o9 (Or.inr ⟨_, rfl, rfl⟩) wd_2258 wd_2260 wd_80 (by omega) (by decide) rfl (by simp [mm_crf, mm_cti, mm_ctl]) rfl dX12_readAtom_9 ?_
    show V _ _ (.int v9 :: _) _
    refine mm_istore_n C (pc := 12) (i := 1) (lv' := [(1, .int v9), (0, va_rf a0)]) dX12_readAtom_12 rfl (by decide) (by simp [mm_crf]) ?_
    refine mm_iload_n C (pc := 13) 0 dX12_readAtom_13 rfl ?_
    refine mm_iconst C (pc := 14) (v := ((-1) : Int32)) dX12_readAtom_14 (by decide) ?_
    refine mm_icmp_eq C (pc := 15) (tgt := 29) dX12_readAtom_15 (by decide) (fun hc => ?_) (fun hc => ?_)
    · replace hK := mm_ip hc hK
      refine mm_aload_n C (pc := 29) 1 dX12_readAtom_29 rfl ?_
      refine mm_bipush C (pc := 30) (v := (40 : Int32)) dX12_readAtom_30 (by decide) ?_
      replace hK := mm_b2s hK; obtain ⟨v32, h32, e32, hK⟩ := hK
      obtain ⟨o32, e32⟩ := cV_some e32
      refine mm_callV C (pc := 32) (d1 := 1) (As := [.int (40 : Int32)]) (st := []) (vk := (some (.int v32))) ((S_X12_isSign (by omega)) e32) tT_X12_isSign o32 (Or.inr ⟨_, rfl, rfl⟩) wd_2271 wd_2273 wd_82 (by omega) (by decide) rfl (by simp [mm_crf, mm_cti, mm_ctl]) rfl dX12_readAtom_32 ?_
      show V _ _ (.int v32 :: _) _
      refine mm_if_eq C (pc := 35) (tgt := 65) dX12_readAtom_35 (by decide) (fun hc => ?_) (fun hc => ?_)
      · replace hK := mm_ip hc hK
        refine mm_aload_n C (pc := 65) 1 dX12_readAtom_65 rfl ?_
        refine mm_iconst C (pc := 66) (v := (0 : Int32)) dX12_readAtom_66 (by decide) ?_
        refine mm_sipush C (pc := 67) (v := (999 : Int32)) dX12_readAtom_67 (by decide) ?_
        replace hK := mm_b2s hK; obtain ⟨v70, h70, e70, hK⟩ := hK
        obtain ⟨o70, e70⟩ := cV_some e70
        refine mm_callV C (pc := 70) (d1 := 3) (As := [.int (0 : Int32), .int (999 : Int32)]) (st := []) (vk := (some (.int v70))) ((S_X12_number (by omega)) e70) tT_X12_number o70 (Or.inr ⟨_, rfl, rfl⟩) wd_2200 wd_2202 wd_68 (by omega) (by decide) rfl (by simp [mm_crf, mm_cti, mm_ctl]) rfl dX12_readAtom_70 ?_
        show V _ _ (.int v70 :: _) _
        refine mm_istore_n C (pc := 73) (i := 2) (lv' := [(2, .int v70), (1, .int v9), (0, va_rf a0)]) dX12_readAtom_73 rfl (by decide) rfl ?_
        refine mm_aload_n C (pc := 74) 2 dX12_readAtom_74 rfl ?_
        refine mm_sipush C (pc := 75) (v := (1000 : Int32)) dX12_readAtom_75 (by decide) ?_
        refine mm_iload_n C (pc := 78) 0 dX12_readAtom_78 rfl ?_
        refine mm_iadd C (pc := 79) dX12_readAtom_79 ?_
        replace hK := mm_bd hK; obtain ⟨h80, e80, hK⟩ := hK
        obtain ⟨o80, e80⟩ := cV_some e80
        refine mm_callV C (pc := 80) (d1 := 1) (As := [.int ((1000 : Int32) + v70)]) (st := []) (vk := none) ((S_X12_laysStep (by omega)) e80) tT_X12_laysStep o80 (Or.inr ⟨_, rfl, rfl⟩) wd_2267 wd_2269 wd_81 (by omega) (by decide) rfl (by simp [mm_crf, mm_cti, mm_ctl]) rfl dX12_readAtom_80 ?_
        show V _ _ [] _
        refine mm_sub C [] rfl ?_
        exact w_X12_readAtom_83 hd0 hp hd C _ hK
      · replace hK := mm_in hc hK
        refine mm_aload_n C (pc := 38) 1 dX12_readAtom_38 rfl ?_
        replace hK := mm_bd hK; obtain ⟨h39, e39, hK⟩ := hK
        obtain ⟨o39, e39⟩ := cV_some e39
        refine mm_callV C (pc := 39) (d1 := 3) (As := []) (st := []) (vk := none) ((S_X12_goesIn (by omega)) e39) tT_X12_goesIn o39 (Or.inr ⟨_, rfl, rfl⟩) wd_2275 wd_2277 wd_83 (by omega) (by decide) rfl (by simp [mm_crf, mm_cti, mm_ctl]) rfl dX12_readAtom_39 ?_
        show V _ _ [] _
        refine mm_aload_n C (pc := 42) 1 dX12_readAtom_42 rfl ?_
        replace hK := mm_bd hK; obtain ⟨h43, e43, hK⟩ := hK
        obtain ⟨o43, e43⟩ := cV_some e43
        refine mm_callV C (pc := 43) (d1 := d0) (As := []) (st := []) (vk := none) ((hp.2.1 _ (by omega) ) e43) tT_X12_readSum o43 (Or.inr ⟨_, rfl, rfl⟩) wd_2246 wd_2248 wd_77 (by omega) (by decide) rfl (by simp [mm_crf, mm_cti, mm_ctl]) rfl dX12_readAtom_43 ?_
        show V _ _ [] _
        refine mm_aload_n C (pc := 46) 1 dX12_readAtom_46 rfl ?_
        refine mm_bipush C (pc := 47) (v := (41 : Int32)) dX12_readAtom_47 (by decide) ?_
        replace hK := mm_bd hK; obtain ⟨h49, e49, hK⟩ := hK
        obtain ⟨o49, e49⟩ := cV_some e49
        refine mm_callV C (pc := 49) (d1 := 3) (As := [.int (41 : Int32)]) (st := []) (vk := none) ((S_X12_mustSign (by omega)) e49) tT_X12_mustSign o49 (Or.inr ⟨_, rfl, rfl⟩) wd_2208 wd_2210 wd_70 (by omega) (by decide) rfl (by simp [mm_crf, mm_cti, mm_ctl]) rfl dX12_readAtom_49 ?_
        show V _ _ [] _
        refine mm_aload_n C (pc := 52) 1 dX12_readAtom_52 rfl ?_
        refine mm_dup C (pc := 53) dX12_readAtom_53 mm_crf ?_
        replace hK := mm_bd hK; obtain ⟨v54, e54, hK⟩ := hK
        refine mm_geti C (pc := 54) (k := 16) inGX12 rfl (by decide) wd_2015 dX12_readAtom_54 e54 ?_
        refine mm_iconst C (pc := 57) (v := (1 : Int32)) dX12_readAtom_57 (by decide) ?_
        refine mm_isub C (pc := 58) dX12_readAtom_58 ?_
        replace hK := mm_bd hK; obtain ⟨h59, e59, hK⟩ := hK
        refine mm_puti C (pc := 59) (k := 16) false (fun z => by cases z) inGX12 tyX12 tyX12_ok nmX12 rfl (by decide) wd_2015 rfl rfl dX12_readAtom_59 e59 ?_
        refine mm_goto C (pc := 62) (tgt := 83) dX12_readAtom_62 (by decide) ?_
        refine mm_sub C [] rfl ?_
        exact w_X12_readAtom_83 hd0 hp hd C _ hK
    · replace hK := mm_in hc hK
      refine mm_aload_n C (pc := 18) 1 dX12_readAtom_18 rfl ?_
      refine mm_bipush C (pc := 19) (v := (100 : Int32)) dX12_readAtom_19 (by decide) ?_
      refine mm_iload_n C (pc := 21) 0 dX12_readAtom_21 rfl ?_
      refine mm_iadd C (pc := 22) dX12_readAtom_22 ?_
      replace hK := mm_bd hK; obtain ⟨h23, e23, hK⟩ := hK
      obtain ⟨o23, e23⟩ := cV_some e23
      refine mm_callV C (pc := 23) (d1 := 1) (As := [.int ((100 : Int32) + v9)]) (st := []) (vk := none) ((S_X12_laysStep (by omega)) e23) tT_X12_laysStep o23 (Or.inr ⟨_, rfl, rfl⟩) wd_2267 wd_2269 wd_81 (by omega) (by decide) rfl (by simp [mm_crf, mm_cti, mm_ctl]) rfl dX12_readAtom_23 ?_
      show V _ _ [] _
      refine mm_goto C (pc := 26) (tgt := 83) dX12_readAtom_26 (by decide) ?_
      refine mm_sub C [] rfl ?_
      exact w_X12_readAtom_83 hd0 hp hd C _ hK
  · replace hK := mm_in hc hK
    cases hK
    exact mm_vret C (pc := 7) rfl dX12_readAtom_7 rfl rfl
def F_X12_readSum_49 (p : PT_X12_readAtom) (k4 : Option Nat → MH → Option MH) (l0 : Option Nat) (s0 : Int32) (s1 : Option Nat) (h : MH) : Option MH := (cV h s1 12 (F_X12_laysStep s1 s0 h)).bind fun h49 => k4 l0 h49
set_option maxRecDepth 20000 in
set_option maxHeartbeats 4000000 in
theorem w_X12_readSum_49 {d : Nat} {V : Nat → List (Nat × Value) → List Value → MH → Prop} {hz : MH} {p : PT_X12_readAtom} {d0 : Nat} (hd0 : d0 + 1 ≤ d) (hp : PH_X12_readAtom p d0) {k4 : Option Nat → MH → Option MH} (hd : 3 ≤ d) (C : mm_C d yX12_readSum cX12_readSum 2 none (.inr none) hz V) (q4 : ∀ (x0 : Option Nat) (h : MH), k4 x0 h = some hz → V 4 [(0, va_rf x0)] [] h) (l0 : Option Nat) (s0 : Int32) (s1 : Option Nat) (h : MH) (hK : F_X12_readSum_49 p k4 l0 s0 s1 h = some hz) : V 49 [(0, va_rf l0)] [.int s0, va_rf s1] h := by
  unfold F_X12_readSum_49 at hK
  replace hK := mm_bd hK; obtain ⟨h49, e49, hK⟩ := hK
  obtain ⟨o49, e49⟩ := cV_some e49
  refine mm_callV C (pc := 49) (d1 := 1) (As := [.int s0]) (st := []) (vk := none) ((S_X12_laysStep (by omega)) e49) tT_X12_laysStep o49 (Or.inr ⟨_, rfl, rfl⟩) wd_2267 wd_2269 wd_81 (by omega) (by decide) rfl (by simp [mm_crf, mm_cti, mm_ctl]) rfl dX12_readSum_49 ?_
  show V _ _ [] _
  refine mm_goto C (pc := 52) (tgt := 4) dX12_readSum_52 (by decide) ?_
  exact q4 _ _ hK
def F_X12_readSum_22 (p : PT_X12_readAtom) (k4 : Option Nat → MH → Option MH) (l0 : Option Nat) (h : MH) : Option MH := (gI h l0 12 10).bind fun v23 => (cV h l0 12 (F_X12_readsOn l0 h)).bind fun h28 => (cV h28 l0 12 (p.2.2 l0 h28)).bind fun h32 => if v23 = (43 : Int32) then (F_X12_readSum_49 p k4 l0 (10 : Int32) l0 h32) else (F_X12_readSum_49 p k4 l0 (11 : Int32) l0 h32)
set_option maxRecDepth 20000 in
set_option maxHeartbeats 4000000 in
theorem w_X12_readSum_22 {d : Nat} {V : Nat → List (Nat × Value) → List Value → MH → Prop} {hz : MH} {p : PT_X12_readAtom} {d0 : Nat} (hd0 : d0 + 1 ≤ d) (hp : PH_X12_readAtom p d0) {k4 : Option Nat → MH → Option MH} (hd : 3 ≤ d) (C : mm_C d yX12_readSum cX12_readSum 2 none (.inr none) hz V) (q4 : ∀ (x0 : Option Nat) (h : MH), k4 x0 h = some hz → V 4 [(0, va_rf x0)] [] h) (l0 : Option Nat) (h : MH) (hK : F_X12_readSum_22 p k4 l0 h = some hz) : V 22 [(0, va_rf l0)] [] h := by
  unfold F_X12_readSum_22 at hK
  refine mm_aload_n C (pc := 22) 0 dX12_readSum_22 rfl ?_
  replace hK := mm_bd hK; obtain ⟨v23, e23, hK⟩ := hK
  refine mm_geti C (pc := 23) (k := 10) inGX12 rfl (by decide) wd_2009 dX12_readSum_23 e23 ?_
  refine mm_istore_n C (pc := 26) (i := 1) (lv' := [(1, .int v23), (0, va_rf l0)]) dX12_readSum_26 rfl (by decide) (by simp [mm_crf]) ?_
  refine mm_aload_n C (pc := 27) 1 dX12_readSum_27 rfl ?_
  replace hK := mm_bd hK; obtain ⟨h28, e28, hK⟩ := hK
  obtain ⟨o28, e28⟩ := cV_some e28
  refine mm_callV C (pc := 28) (d1 := 2) (As := []) (st := []) (vk := none) ((S_X12_readsOn (by omega)) e28) tT_X12_readsOn o28 (Or.inr ⟨_, rfl, rfl⟩) wd_2164 wd_2166 wd_62 (by omega) (by decide) rfl (by simp [mm_crf, mm_cti, mm_ctl]) rfl dX12_readSum_28 ?_
  show V _ _ [] _
  refine mm_aload_n C (pc := 31) 1 dX12_readSum_31 rfl ?_
  replace hK := mm_bd hK; obtain ⟨h32, e32, hK⟩ := hK
  obtain ⟨o32, e32⟩ := cV_some e32
  refine mm_callV C (pc := 32) (d1 := d0) (As := []) (st := []) (vk := none) ((hp.2.2 _ (by omega) ) e32) tT_X12_readTerm o32 (Or.inr ⟨_, rfl, rfl⟩) wd_2250 wd_2252 wd_78 (by omega) (by decide) rfl (by simp [mm_crf, mm_cti, mm_ctl]) rfl dX12_readSum_32 ?_
  show V _ _ [] _
  refine mm_aload_n C (pc := 35) 1 dX12_readSum_35 rfl ?_
  refine mm_iload_n C (pc := 36) 0 dX12_readSum_36 rfl ?_
  refine mm_bipush C (pc := 37) (v := (43 : Int32)) dX12_readSum_37 (by decide) ?_
  refine mm_icmp_ne C (pc := 39) (tgt := 47) dX12_readSum_39 (by decide) (fun hc => ?_) (fun hc => ?_)
  · replace hK := mm_in hc hK
    refine mm_bipush C (pc := 47) (v := (11 : Int32)) dX12_readSum_47 (by decide) ?_
    refine mm_sub C [1] rfl ?_
    exact w_X12_readSum_49 hd0 hp hd C (fun z0 z1 hK => q4 z0 z1 hK) _ _ _ _ hK
  · replace hK := mm_ip hc hK
    refine mm_bipush C (pc := 42) (v := (10 : Int32)) dX12_readSum_42 (by decide) ?_
    refine mm_goto C (pc := 44) (tgt := 49) dX12_readSum_44 (by decide) ?_
    refine mm_sub C [1] rfl ?_
    exact w_X12_readSum_49 hd0 hp hd C (fun z0 z1 hK => q4 z0 z1 hK) _ _ _ _ hK
def F_X12_readSum_4 (p : PT_X12_readAtom) : Nat → Option Nat → MH → Option MH
  | 0 => fun _ _ => none
  | n + 1 => fun l0 h => mm_b2 (cV h l0 12 (F_X12_isSign l0 (43 : Int32) h)) fun v7 h7 => if v7 = 0 then (mm_b2 (cV h7 l0 12 (F_X12_isSign l0 (45 : Int32) h7)) fun v16 h16 => if v16 = 0 then (some h16) else (F_X12_readSum_22 p (F_X12_readSum_4 p n) l0 h16)) else (F_X12_readSum_22 p (F_X12_readSum_4 p n) l0 h7)
set_option maxRecDepth 20000 in
set_option maxHeartbeats 4000000 in
theorem w_X12_readSum_4 {d : Nat} {V : Nat → List (Nat × Value) → List Value → MH → Prop} {hz : MH} {p : PT_X12_readAtom} {d0 : Nat} (hd0 : d0 + 1 ≤ d) (hp : PH_X12_readAtom p d0) (hd : 3 ≤ d) (C : mm_C d yX12_readSum cX12_readSum 2 none (.inr none) hz V) : ∀ (n : Nat) (l0 : Option Nat) (h : MH), F_X12_readSum_4 p n l0 h = some hz → V 4 [(0, va_rf l0)] [] h := by
  intro n
  induction n with
  | zero => intro l0 h hK; cases hK
  | succ n ih =>
    intro l0 h hK
    replace hK : (mm_b2 (cV h l0 12 (F_X12_isSign l0 (43 : Int32) h)) fun v7 h7 => if v7 = 0 then (mm_b2 (cV h7 l0 12 (F_X12_isSign l0 (45 : Int32) h7)) fun v16 h16 => if v16 = 0 then (some h16) else (F_X12_readSum_22 p (F_X12_readSum_4 p n) l0 h16)) else (F_X12_readSum_22 p (F_X12_readSum_4 p n) l0 h7)) = some hz := hK
    refine mm_aload_n C (pc := 4) 0 dX12_readSum_4 rfl ?_
    refine mm_bipush C (pc := 5) (v := (43 : Int32)) dX12_readSum_5 (by decide) ?_
    replace hK := mm_b2s hK; obtain ⟨v7, h7, e7, hK⟩ := hK
    obtain ⟨o7, e7⟩ := cV_some e7
    refine mm_callV C (pc := 7) (d1 := 1) (As := [.int (43 : Int32)]) (st := []) (vk := (some (.int v7))) ((S_X12_isSign (by omega)) e7) tT_X12_isSign o7 (Or.inr ⟨_, rfl, rfl⟩) wd_2271 wd_2273 wd_82 (by omega) (by decide) rfl (by simp [mm_crf, mm_cti, mm_ctl]) rfl dX12_readSum_7 ?_
    show V _ _ (.int v7 :: _) _
    refine mm_if_ne C (pc := 10) (tgt := 22) dX12_readSum_10 (by decide) (fun hc => ?_) (fun hc => ?_)
    · replace hK := mm_in hc hK
      exact w_X12_readSum_22 hd0 hp hd C (fun z0 z1 hK => ih z0 z1 hK) _ _ hK
    · replace hK := mm_ip hc hK
      refine mm_aload_n C (pc := 13) 0 dX12_readSum_13 rfl ?_
      refine mm_bipush C (pc := 14) (v := (45 : Int32)) dX12_readSum_14 (by decide) ?_
      replace hK := mm_b2s hK; obtain ⟨v16, h16, e16, hK⟩ := hK
      obtain ⟨o16, e16⟩ := cV_some e16
      refine mm_callV C (pc := 16) (d1 := 1) (As := [.int (45 : Int32)]) (st := []) (vk := (some (.int v16))) ((S_X12_isSign (by omega)) e16) tT_X12_isSign o16 (Or.inr ⟨_, rfl, rfl⟩) wd_2271 wd_2273 wd_82 (by omega) (by decide) rfl (by simp [mm_crf, mm_cti, mm_ctl]) rfl dX12_readSum_16 ?_
      show V _ _ (.int v16 :: _) _
      refine mm_if_eq C (pc := 19) (tgt := 55) dX12_readSum_19 (by decide) (fun hc => ?_) (fun hc => ?_)
      · replace hK := mm_ip hc hK
        cases hK
        exact mm_vret C (pc := 55) rfl dX12_readSum_55 rfl rfl
      · replace hK := mm_in hc hK
        exact w_X12_readSum_22 hd0 hp hd C (fun z0 z1 hK => ih z0 z1 hK) _ _ hK
def F_X12_readSum (p : PT_X12_readAtom) (a0 : Option Nat) (h : MH) : Option MH := (cV h a0 12 (p.2.2 a0 h)).bind fun h1 => F_X12_readSum_4 p mm_N a0 h1
set_option maxRecDepth 20000 in
set_option maxHeartbeats 4000000 in
theorem S_X12_readSum {d : Nat} {p : PT_X12_readAtom} {d0 : Nat} (hd0 : d0 + 1 ≤ d) (hp : PH_X12_readAtom p d0) (hd : 3 ≤ d) {a0 : Option Nat} {h : MH} {hz : MH} (hK : F_X12_readSum p a0 h = some hz) : mm_M yX12_readSum cX12_readSum 2 none d [va_rf a0] h (.inr none) hz := by
  refine mm_ofV (by decide +kernel) (by simp [lg_sl, mm_crf, mm_cti, mm_ctl]) (fun V C => ?_)
  rw [show lv_args 0 [va_rf a0] = [(0, va_rf a0)] by simp [lv_args, mm_crf, mm_cti, mm_ctl]]
  unfold F_X12_readSum at hK
  refine mm_aload_n C (pc := 0) 0 dX12_readSum_0 rfl ?_
  replace hK := mm_bd hK; obtain ⟨h1, e1, hK⟩ := hK
  obtain ⟨o1, e1⟩ := cV_some e1
  refine mm_callV C (pc := 1) (d1 := d0) (As := []) (st := []) (vk := none) ((hp.2.2 _ (by omega) ) e1) tT_X12_readTerm o1 (Or.inr ⟨_, rfl, rfl⟩) wd_2250 wd_2252 wd_78 (by omega) (by decide) rfl (by simp [mm_crf, mm_cti, mm_ctl]) rfl dX12_readSum_1 ?_
  show V _ _ [] _
  exact w_X12_readSum_4 hd0 hp hd C _ _ _ hK
def F_X12_readTerm_4 (p : PT_X12_readAtom) : Nat → Option Nat → MH → Option MH
  | 0 => fun _ _ => none
  | n + 1 => fun l0 h => mm_b2 (cV h l0 12 (F_X12_isSign l0 (42 : Int32) h)) fun v7 h7 => if v7 = 0 then (some h7) else ((cV h7 l0 12 (F_X12_readsOn l0 h7)).bind fun h14 => (cV h14 l0 12 (p.1 l0 h14)).bind fun h18 => (cV h18 l0 12 (F_X12_laysStep l0 (12 : Int32) h18)).bind fun h24 => F_X12_readTerm_4 p n l0 h24)
set_option maxRecDepth 20000 in
set_option maxHeartbeats 4000000 in
theorem w_X12_readTerm_4 {d : Nat} {V : Nat → List (Nat × Value) → List Value → MH → Prop} {hz : MH} {p : PT_X12_readAtom} {d0 : Nat} (hd0 : d0 + 1 ≤ d) (hp : PH_X12_readAtom p d0) (hd : 3 ≤ d) (C : mm_C d yX12_readTerm cX12_readTerm 1 none (.inr none) hz V) : ∀ (n : Nat) (l0 : Option Nat) (h : MH), F_X12_readTerm_4 p n l0 h = some hz → V 4 [(0, va_rf l0)] [] h := by
  intro n
  induction n with
  | zero => intro l0 h hK; cases hK
  | succ n ih =>
    intro l0 h hK
    replace hK : (mm_b2 (cV h l0 12 (F_X12_isSign l0 (42 : Int32) h)) fun v7 h7 => if v7 = 0 then (some h7) else ((cV h7 l0 12 (F_X12_readsOn l0 h7)).bind fun h14 => (cV h14 l0 12 (p.1 l0 h14)).bind fun h18 => (cV h18 l0 12 (F_X12_laysStep l0 (12 : Int32) h18)).bind fun h24 => F_X12_readTerm_4 p n l0 h24)) = some hz := hK
    refine mm_aload_n C (pc := 4) 0 dX12_readTerm_4 rfl ?_
    refine mm_bipush C (pc := 5) (v := (42 : Int32)) dX12_readTerm_5 (by decide) ?_
    replace hK := mm_b2s hK; obtain ⟨v7, h7, e7, hK⟩ := hK
    obtain ⟨o7, e7⟩ := cV_some e7
    refine mm_callV C (pc := 7) (d1 := 1) (As := [.int (42 : Int32)]) (st := []) (vk := (some (.int v7))) ((S_X12_isSign (by omega)) e7) tT_X12_isSign o7 (Or.inr ⟨_, rfl, rfl⟩) wd_2271 wd_2273 wd_82 (by omega) (by decide) rfl (by simp [mm_crf, mm_cti, mm_ctl]) rfl dX12_readTerm_7 ?_
    show V _ _ (.int v7 :: _) _
    refine mm_if_eq C (pc := 10) (tgt := 30) dX12_readTerm_10 (by decide) (fun hc => ?_) (fun hc => ?_)
    · replace hK := mm_ip hc hK
      cases hK
      exact mm_vret C (pc := 30) rfl dX12_readTerm_30 rfl rfl
    · replace hK := mm_in hc hK
      refine mm_aload_n C (pc := 13) 0 dX12_readTerm_13 rfl ?_
      replace hK := mm_bd hK; obtain ⟨h14, e14, hK⟩ := hK
      obtain ⟨o14, e14⟩ := cV_some e14
      refine mm_callV C (pc := 14) (d1 := 2) (As := []) (st := []) (vk := none) ((S_X12_readsOn (by omega)) e14) tT_X12_readsOn o14 (Or.inr ⟨_, rfl, rfl⟩) wd_2164 wd_2166 wd_62 (by omega) (by decide) rfl (by simp [mm_crf, mm_cti, mm_ctl]) rfl dX12_readTerm_14 ?_
      show V _ _ [] _
      refine mm_aload_n C (pc := 17) 0 dX12_readTerm_17 rfl ?_
      replace hK := mm_bd hK; obtain ⟨h18, e18, hK⟩ := hK
      obtain ⟨o18, e18⟩ := cV_some e18
      refine mm_callV C (pc := 18) (d1 := d0) (As := []) (st := []) (vk := none) ((hp.1 _ (by omega) ) e18) tT_X12_readAtom o18 (Or.inr ⟨_, rfl, rfl⟩) wd_2254 wd_2256 wd_79 (by omega) (by decide) rfl (by simp [mm_crf, mm_cti, mm_ctl]) rfl dX12_readTerm_18 ?_
      show V _ _ [] _
      refine mm_aload_n C (pc := 21) 0 dX12_readTerm_21 rfl ?_
      refine mm_bipush C (pc := 22) (v := (12 : Int32)) dX12_readTerm_22 (by decide) ?_
      replace hK := mm_bd hK; obtain ⟨h24, e24, hK⟩ := hK
      obtain ⟨o24, e24⟩ := cV_some e24
      refine mm_callV C (pc := 24) (d1 := 1) (As := [.int (12 : Int32)]) (st := []) (vk := none) ((S_X12_laysStep (by omega)) e24) tT_X12_laysStep o24 (Or.inr ⟨_, rfl, rfl⟩) wd_2267 wd_2269 wd_81 (by omega) (by decide) rfl (by simp [mm_crf, mm_cti, mm_ctl]) rfl dX12_readTerm_24 ?_
      show V _ _ [] _
      refine mm_goto C (pc := 27) (tgt := 4) dX12_readTerm_27 (by decide) ?_
      exact ih _ _ hK
def F_X12_readTerm (p : PT_X12_readAtom) (a0 : Option Nat) (h : MH) : Option MH := (cV h a0 12 (p.1 a0 h)).bind fun h1 => F_X12_readTerm_4 p mm_N a0 h1
set_option maxRecDepth 20000 in
set_option maxHeartbeats 4000000 in
theorem S_X12_readTerm {d : Nat} {p : PT_X12_readAtom} {d0 : Nat} (hd0 : d0 + 1 ≤ d) (hp : PH_X12_readAtom p d0) (hd : 3 ≤ d) {a0 : Option Nat} {h : MH} {hz : MH} (hK : F_X12_readTerm p a0 h = some hz) : mm_M yX12_readTerm cX12_readTerm 1 none d [va_rf a0] h (.inr none) hz := by
  refine mm_ofV (by decide +kernel) (by simp [lg_sl, mm_crf, mm_cti, mm_ctl]) (fun V C => ?_)
  rw [show lv_args 0 [va_rf a0] = [(0, va_rf a0)] by simp [lv_args, mm_crf, mm_cti, mm_ctl]]
  unfold F_X12_readTerm at hK
  refine mm_aload_n C (pc := 0) 0 dX12_readTerm_0 rfl ?_
  replace hK := mm_bd hK; obtain ⟨h1, e1, hK⟩ := hK
  obtain ⟨o1, e1⟩ := cV_some e1
  refine mm_callV C (pc := 1) (d1 := d0) (As := []) (st := []) (vk := none) ((hp.1 _ (by omega) ) e1) tT_X12_readAtom o1 (Or.inr ⟨_, rfl, rfl⟩) wd_2254 wd_2256 wd_79 (by omega) (by decide) rfl (by simp [mm_crf, mm_cti, mm_ctl]) rfl dX12_readTerm_1 ?_
  show V _ _ [] _
  exact w_X12_readTerm_4 hd0 hp hd C _ _ _ hK
def G_X12_readAtom : Nat → PT_X12_readAtom
  | 0 => ((fun _ _ => none), (fun _ _ => none), (fun _ _ => none))
  | n + 1 => ((fun a0 h => F_X12_readAtom (G_X12_readAtom n) a0 h), (fun a0 h => F_X12_readSum (G_X12_readAtom n) a0 h), (fun a0 h => F_X12_readTerm (G_X12_readAtom n) a0 h))
theorem S_G_X12_readAtom : ∀ n : Nat, PH_X12_readAtom (G_X12_readAtom n) (8 + n) := by
  intro n
  induction n with
  | zero => exact ⟨fun d hd _ _ _ hK => (by cases hK), fun d hd _ _ _ hK => (by cases hK), fun d hd _ _ _ hK => (by cases hK)⟩
  | succ n ih => exact ⟨fun d hd _ _ _ hK => S_X12_readAtom (p := G_X12_readAtom n) (d0 := 8 + n) (by omega) ih (by omega) hK, fun d hd _ _ _ hK => S_X12_readSum (p := G_X12_readAtom n) (d0 := 8 + n) (by omega) ih (by omega) hK, fun d hd _ _ _ hK => S_X12_readTerm (p := G_X12_readAtom n) (d0 := 8 + n) (by omega) ih (by omega) hK⟩
theorem wd_2291 : Cond.code yX12_readUnit cX12_readUnit 2 none ∈ lw_good := mm_wd 2291 (by decide +kernel) (by decide +kernel)
theorem tT_X12_readUnit : mm_T yX12_readUnit cX12_readUnit 2 none 0 := ⟨wd_2291, wd_170, by decide +kernel, by decide +kernel, by decide +kernel, by decide +kernel⟩
theorem wd_2288 : Cond.methodLink RX12 170 yX12_readUnit ∈ lw_good := mm_wd 2288 (by decide +kernel) (by decide +kernel)
theorem wd_2290 : Cond.instanceMethod yX12_readUnit ∈ lw_good := mm_wd 2290 (by decide +kernel) (by decide +kernel)
theorem wd_86 : Cond.selects RX12 yX12_readUnit yX12_readUnit ∈ lw_good := mm_wd 86 (by decide +kernel) (by decide +kernel)
theorem wd_2287 : Cond.code yX12_readBoth cX12_readBoth 1 none ∈ lw_good := mm_wd 2287 (by decide +kernel) (by decide +kernel)
theorem tT_X12_readBoth : mm_T yX12_readBoth cX12_readBoth 1 none 0 := ⟨wd_2287, wd_170, by decide +kernel, by decide +kernel, by decide +kernel, by decide +kernel⟩
theorem wd_2284 : Cond.methodLink RX12 162 yX12_readBoth ∈ lw_good := mm_wd 2284 (by decide +kernel) (by decide +kernel)
theorem wd_2286 : Cond.instanceMethod yX12_readBoth ∈ lw_good := mm_wd 2286 (by decide +kernel) (by decide +kernel)
theorem wd_85 : Cond.selects RX12 yX12_readBoth yX12_readBoth ∈ lw_good := mm_wd 85 (by decide +kernel) (by decide +kernel)
theorem wd_2283 : Cond.code yX12_readTruth cX12_readTruth 1 none ∈ lw_good := mm_wd 2283 (by decide +kernel) (by decide +kernel)
theorem tT_X12_readTruth : mm_T yX12_readTruth cX12_readTruth 1 none 0 := ⟨wd_2283, wd_170, by decide +kernel, by decide +kernel, by decide +kernel, by decide +kernel⟩
theorem wd_2280 : Cond.methodLink RX12 183 yX12_readTruth ∈ lw_good := mm_wd 2280 (by decide +kernel) (by decide +kernel)
theorem wd_2282 : Cond.instanceMethod yX12_readTruth ∈ lw_good := mm_wd 2282 (by decide +kernel) (by decide +kernel)
theorem wd_84 : Cond.selects RX12 yX12_readTruth yX12_readTruth ∈ lw_good := mm_wd 84 (by decide +kernel) (by decide +kernel)
abbrev PT_X12_readBoth : Type := (Option Nat → MH → Option MH) × (Option Nat → MH → Option MH) × (Option Nat → MH → Option MH)
def PH_X12_readBoth (p : PT_X12_readBoth) (d0 : Nat) : Prop := (∀ d : Nat, d0 ≤ d → ∀ {a0 : Option Nat} {h : MH} {hz : MH}, p.1 a0 h = some hz → mm_M yX12_readBoth cX12_readBoth 1 none d [va_rf a0] h (.inr none) hz) ∧ (∀ d : Nat, d0 ≤ d → ∀ {a0 : Option Nat} {h : MH} {hz : MH}, p.2.1 a0 h = some hz → mm_M yX12_readTruth cX12_readTruth 1 none d [va_rf a0] h (.inr none) hz) ∧ (∀ d : Nat, d0 ≤ d → ∀ {a0 : Option Nat} {h : MH} {hz : MH}, p.2.2 a0 h = some hz → mm_M yX12_readUnit cX12_readUnit 2 none d [va_rf a0] h (.inr none) hz)
def F_X12_readBoth_4 (p : PT_X12_readBoth) : Nat → Option Nat → MH → Option MH
  | 0 => fun _ _ => none
  | n + 1 => fun l0 h => mm_b2 (cV h l0 12 (F_X12_took l0 (some 49 : Option Nat) h)) fun v7 h7 => if v7 = 0 then (some h7) else ((cV h7 l0 12 (p.2.2 l0 h7)).bind fun h14 => (cV h14 l0 12 (F_X12_laysStep l0 (16 : Int32) h14)).bind fun h20 => F_X12_readBoth_4 p n l0 h20)
set_option maxRecDepth 20000 in
set_option maxHeartbeats 4000000 in
theorem w_X12_readBoth_4 {d : Nat} {V : Nat → List (Nat × Value) → List Value → MH → Prop} {hz : MH} {p : PT_X12_readBoth} {d0 : Nat} (hd0 : d0 + 1 ≤ d) (hp : PH_X12_readBoth p d0) (hd : 7 ≤ d) (C : mm_C d yX12_readBoth cX12_readBoth 1 none (.inr none) hz V) : ∀ (n : Nat) (l0 : Option Nat) (h : MH), F_X12_readBoth_4 p n l0 h = some hz → V 4 [(0, va_rf l0)] [] h := by
  intro n
  induction n with
  | zero => intro l0 h hK; cases hK
  | succ n ih =>
    intro l0 h hK
    replace hK : (mm_b2 (cV h l0 12 (F_X12_took l0 (some 49 : Option Nat) h)) fun v7 h7 => if v7 = 0 then (some h7) else ((cV h7 l0 12 (p.2.2 l0 h7)).bind fun h14 => (cV h14 l0 12 (F_X12_laysStep l0 (16 : Int32) h14)).bind fun h20 => F_X12_readBoth_4 p n l0 h20)) = some hz := hK
    refine mm_aload_n C (pc := 4) 0 dX12_readBoth_4 rfl ?_
    refine mm_ldcS C (pc := 5) (i := 49) (by decide) (by rfl) dX12_readBoth_5 ?_
    replace hK := mm_b2s hK; obtain ⟨v7, h7, e7, hK⟩ := hK
    obtain ⟨o7, e7⟩ := cV_some e7
    refine mm_callV C (pc := 7) (d1 := 6) (As := [va_rf (some 49 : Option Nat)]) (st := []) (vk := (some (.int v7))) ((S_X12_took (by omega)) e7) tT_X12_took o7 (Or.inr ⟨_, rfl, rfl⟩) wd_2186 wd_2188 wd_65 (by omega) (by decide) rfl (by simp [mm_crf, mm_cti, mm_ctl]) rfl dX12_readBoth_7 ?_
    show V _ _ (.int v7 :: _) _
    refine mm_if_eq C (pc := 10) (tgt := 26) dX12_readBoth_10 (by decide) (fun hc => ?_) (fun hc => ?_)
    · replace hK := mm_ip hc hK
      cases hK
      exact mm_vret C (pc := 26) rfl dX12_readBoth_26 rfl rfl
    · replace hK := mm_in hc hK
      refine mm_aload_n C (pc := 13) 0 dX12_readBoth_13 rfl ?_
      replace hK := mm_bd hK; obtain ⟨h14, e14, hK⟩ := hK
      obtain ⟨o14, e14⟩ := cV_some e14
      refine mm_callV C (pc := 14) (d1 := d0) (As := []) (st := []) (vk := none) ((hp.2.2 _ (by omega) ) e14) tT_X12_readUnit o14 (Or.inr ⟨_, rfl, rfl⟩) wd_2288 wd_2290 wd_86 (by omega) (by decide) rfl (by simp [mm_crf, mm_cti, mm_ctl]) rfl dX12_readBoth_14 ?_
      show V _ _ [] _
      refine mm_aload_n C (pc := 17) 0 dX12_readBoth_17 rfl ?_
      refine mm_bipush C (pc := 18) (v := (16 : Int32)) dX12_readBoth_18 (by decide) ?_
      replace hK := mm_bd hK; obtain ⟨h20, e20, hK⟩ := hK
      obtain ⟨o20, e20⟩ := cV_some e20
      refine mm_callV C (pc := 20) (d1 := 1) (As := [.int (16 : Int32)]) (st := []) (vk := none) ((S_X12_laysStep (by omega)) e20) tT_X12_laysStep o20 (Or.inr ⟨_, rfl, rfl⟩) wd_2267 wd_2269 wd_81 (by omega) (by decide) rfl (by simp [mm_crf, mm_cti, mm_ctl]) rfl dX12_readBoth_20 ?_
      show V _ _ [] _
      refine mm_goto C (pc := 23) (tgt := 4) dX12_readBoth_23 (by decide) ?_
      exact ih _ _ hK
def F_X12_readBoth (p : PT_X12_readBoth) (a0 : Option Nat) (h : MH) : Option MH := (cV h a0 12 (p.2.2 a0 h)).bind fun h1 => F_X12_readBoth_4 p mm_N a0 h1
set_option maxRecDepth 20000 in
set_option maxHeartbeats 4000000 in
theorem S_X12_readBoth {d : Nat} {p : PT_X12_readBoth} {d0 : Nat} (hd0 : d0 + 1 ≤ d) (hp : PH_X12_readBoth p d0) (hd : 7 ≤ d) {a0 : Option Nat} {h : MH} {hz : MH} (hK : F_X12_readBoth p a0 h = some hz) : mm_M yX12_readBoth cX12_readBoth 1 none d [va_rf a0] h (.inr none) hz := by
  refine mm_ofV (by decide +kernel) (by simp [lg_sl, mm_crf, mm_cti, mm_ctl]) (fun V C => ?_)
  rw [show lv_args 0 [va_rf a0] = [(0, va_rf a0)] by simp [lv_args, mm_crf, mm_cti, mm_ctl]]
  unfold F_X12_readBoth at hK
  refine mm_aload_n C (pc := 0) 0 dX12_readBoth_0 rfl ?_
  replace hK := mm_bd hK; obtain ⟨h1, e1, hK⟩ := hK
  obtain ⟨o1, e1⟩ := cV_some e1
  refine mm_callV C (pc := 1) (d1 := d0) (As := []) (st := []) (vk := none) ((hp.2.2 _ (by omega) ) e1) tT_X12_readUnit o1 (Or.inr ⟨_, rfl, rfl⟩) wd_2288 wd_2290 wd_86 (by omega) (by decide) rfl (by simp [mm_crf, mm_cti, mm_ctl]) rfl dX12_readBoth_1 ?_
  show V _ _ [] _
  exact w_X12_readBoth_4 hd0 hp hd C _ _ _ hK
def F_X12_readTruth_4 (p : PT_X12_readBoth) : Nat → Option Nat → MH → Option MH
  | 0 => fun _ _ => none
  | n + 1 => fun l0 h => mm_b2 (cV h l0 12 (F_X12_took l0 (some 50 : Option Nat) h)) fun v7 h7 => if v7 = 0 then (some h7) else ((cV h7 l0 12 (p.1 l0 h7)).bind fun h14 => (cV h14 l0 12 (F_X12_laysStep l0 (17 : Int32) h14)).bind fun h20 => F_X12_readTruth_4 p n l0 h20)
set_option maxRecDepth 20000 in
set_option maxHeartbeats 4000000 in
theorem w_X12_readTruth_4 {d : Nat} {V : Nat → List (Nat × Value) → List Value → MH → Prop} {hz : MH} {p : PT_X12_readBoth} {d0 : Nat} (hd0 : d0 + 1 ≤ d) (hp : PH_X12_readBoth p d0) (hd : 7 ≤ d) (C : mm_C d yX12_readTruth cX12_readTruth 1 none (.inr none) hz V) : ∀ (n : Nat) (l0 : Option Nat) (h : MH), F_X12_readTruth_4 p n l0 h = some hz → V 4 [(0, va_rf l0)] [] h := by
  intro n
  induction n with
  | zero => intro l0 h hK; cases hK
  | succ n ih =>
    intro l0 h hK
    replace hK : (mm_b2 (cV h l0 12 (F_X12_took l0 (some 50 : Option Nat) h)) fun v7 h7 => if v7 = 0 then (some h7) else ((cV h7 l0 12 (p.1 l0 h7)).bind fun h14 => (cV h14 l0 12 (F_X12_laysStep l0 (17 : Int32) h14)).bind fun h20 => F_X12_readTruth_4 p n l0 h20)) = some hz := hK
    refine mm_aload_n C (pc := 4) 0 dX12_readTruth_4 rfl ?_
    refine mm_ldcS C (pc := 5) (i := 50) (by decide) (by rfl) dX12_readTruth_5 ?_
    replace hK := mm_b2s hK; obtain ⟨v7, h7, e7, hK⟩ := hK
    obtain ⟨o7, e7⟩ := cV_some e7
    refine mm_callV C (pc := 7) (d1 := 6) (As := [va_rf (some 50 : Option Nat)]) (st := []) (vk := (some (.int v7))) ((S_X12_took (by omega)) e7) tT_X12_took o7 (Or.inr ⟨_, rfl, rfl⟩) wd_2186 wd_2188 wd_65 (by omega) (by decide) rfl (by simp [mm_crf, mm_cti, mm_ctl]) rfl dX12_readTruth_7 ?_
    show V _ _ (.int v7 :: _) _
    refine mm_if_eq C (pc := 10) (tgt := 26) dX12_readTruth_10 (by decide) (fun hc => ?_) (fun hc => ?_)
    · replace hK := mm_ip hc hK
      cases hK
      exact mm_vret C (pc := 26) rfl dX12_readTruth_26 rfl rfl
    · replace hK := mm_in hc hK
      refine mm_aload_n C (pc := 13) 0 dX12_readTruth_13 rfl ?_
      replace hK := mm_bd hK; obtain ⟨h14, e14, hK⟩ := hK
      obtain ⟨o14, e14⟩ := cV_some e14
      refine mm_callV C (pc := 14) (d1 := d0) (As := []) (st := []) (vk := none) ((hp.1 _ (by omega) ) e14) tT_X12_readBoth o14 (Or.inr ⟨_, rfl, rfl⟩) wd_2284 wd_2286 wd_85 (by omega) (by decide) rfl (by simp [mm_crf, mm_cti, mm_ctl]) rfl dX12_readTruth_14 ?_
      show V _ _ [] _
      refine mm_aload_n C (pc := 17) 0 dX12_readTruth_17 rfl ?_
      refine mm_bipush C (pc := 18) (v := (17 : Int32)) dX12_readTruth_18 (by decide) ?_
      replace hK := mm_bd hK; obtain ⟨h20, e20, hK⟩ := hK
      obtain ⟨o20, e20⟩ := cV_some e20
      refine mm_callV C (pc := 20) (d1 := 1) (As := [.int (17 : Int32)]) (st := []) (vk := none) ((S_X12_laysStep (by omega)) e20) tT_X12_laysStep o20 (Or.inr ⟨_, rfl, rfl⟩) wd_2267 wd_2269 wd_81 (by omega) (by decide) rfl (by simp [mm_crf, mm_cti, mm_ctl]) rfl dX12_readTruth_20 ?_
      show V _ _ [] _
      refine mm_goto C (pc := 23) (tgt := 4) dX12_readTruth_23 (by decide) ?_
      exact ih _ _ hK
def F_X12_readTruth (p : PT_X12_readBoth) (a0 : Option Nat) (h : MH) : Option MH := (cV h a0 12 (p.1 a0 h)).bind fun h1 => F_X12_readTruth_4 p mm_N a0 h1
set_option maxRecDepth 20000 in
set_option maxHeartbeats 4000000 in
theorem S_X12_readTruth {d : Nat} {p : PT_X12_readBoth} {d0 : Nat} (hd0 : d0 + 1 ≤ d) (hp : PH_X12_readBoth p d0) (hd : 7 ≤ d) {a0 : Option Nat} {h : MH} {hz : MH} (hK : F_X12_readTruth p a0 h = some hz) : mm_M yX12_readTruth cX12_readTruth 1 none d [va_rf a0] h (.inr none) hz := by
  refine mm_ofV (by decide +kernel) (by simp [lg_sl, mm_crf, mm_cti, mm_ctl]) (fun V C => ?_)
  rw [show lv_args 0 [va_rf a0] = [(0, va_rf a0)] by simp [lv_args, mm_crf, mm_cti, mm_ctl]]
  unfold F_X12_readTruth at hK
  refine mm_aload_n C (pc := 0) 0 dX12_readTruth_0 rfl ?_
  replace hK := mm_bd hK; obtain ⟨h1, e1, hK⟩ := hK
  obtain ⟨o1, e1⟩ := cV_some e1
  refine mm_callV C (pc := 1) (d1 := d0) (As := []) (st := []) (vk := none) ((hp.1 _ (by omega) ) e1) tT_X12_readBoth o1 (Or.inr ⟨_, rfl, rfl⟩) wd_2284 wd_2286 wd_85 (by omega) (by decide) rfl (by simp [mm_crf, mm_cti, mm_ctl]) rfl dX12_readTruth_1 ?_
  show V _ _ [] _
  exact w_X12_readTruth_4 hd0 hp hd C _ _ _ hK
def F_X12_readUnit_155 (p : PT_X12_readBoth) (h : MH) : Option MH := some h
set_option maxRecDepth 20000 in
set_option maxHeartbeats 4000000 in
theorem w_X12_readUnit_155 {d : Nat} {V : Nat → List (Nat × Value) → List Value → MH → Prop} {hz : MH} {p : PT_X12_readBoth} {d0 : Nat} (hd0 : d0 + 1 ≤ d) (hp : PH_X12_readBoth p d0) (hd : 73 ≤ d) (C : mm_C d yX12_readUnit cX12_readUnit 2 none (.inr none) hz V) (h : MH) (hK : F_X12_readUnit_155 p  h = some hz) : V 155 [] [] h := by
  unfold F_X12_readUnit_155 at hK
  cases hK
  exact mm_vret C (pc := 155) rfl dX12_readUnit_155 rfl rfl
def F_X12_readUnit_152 (p : PT_X12_readBoth) (s0 : Int32) (s1 : Option Nat) (h : MH) : Option MH := (cV h s1 12 (F_X12_laysStep s1 s0 h)).bind fun h152 => F_X12_readUnit_155 p h152
set_option maxRecDepth 20000 in
set_option maxHeartbeats 4000000 in
theorem w_X12_readUnit_152 {d : Nat} {V : Nat → List (Nat × Value) → List Value → MH → Prop} {hz : MH} {p : PT_X12_readBoth} {d0 : Nat} (hd0 : d0 + 1 ≤ d) (hp : PH_X12_readBoth p d0) (hd : 73 ≤ d) (C : mm_C d yX12_readUnit cX12_readUnit 2 none (.inr none) hz V) (s0 : Int32) (s1 : Option Nat) (h : MH) (hK : F_X12_readUnit_152 p s0 s1 h = some hz) : V 152 [] [.int s0, va_rf s1] h := by
  unfold F_X12_readUnit_152 at hK
  replace hK := mm_bd hK; obtain ⟨h152, e152, hK⟩ := hK
  obtain ⟨o152, e152⟩ := cV_some e152
  refine mm_callV C (pc := 152) (d1 := 1) (As := [.int s0]) (st := []) (vk := none) ((S_X12_laysStep (by omega)) e152) tT_X12_laysStep o152 (Or.inr ⟨_, rfl, rfl⟩) wd_2267 wd_2269 wd_81 (by omega) (by decide) rfl (by simp [mm_crf, mm_cti, mm_ctl]) rfl dX12_readUnit_152 ?_
  show V _ _ [] _
  exact w_X12_readUnit_155 hd0 hp hd C _ hK
def F_X12_readUnit_123 (p : PT_X12_readBoth) (l0 : Option Nat) (l1 : Int32) (h : MH) : Option MH := (cV h l0 12 ((G_X12_readAtom 64).2.1 l0 h)).bind fun h124 => if l1 = (61 : Int32) then (F_X12_readUnit_152 p (13 : Int32) l0 h124) else (if l1 = (60 : Int32) then (F_X12_readUnit_152 p (14 : Int32) l0 h124) else (F_X12_readUnit_152 p (15 : Int32) l0 h124))
set_option maxRecDepth 20000 in
set_option maxHeartbeats 4000000 in
theorem w_X12_readUnit_123 {d : Nat} {V : Nat → List (Nat × Value) → List Value → MH → Prop} {hz : MH} {p : PT_X12_readBoth} {d0 : Nat} (hd0 : d0 + 1 ≤ d) (hp : PH_X12_readBoth p d0) (hd : 73 ≤ d) (C : mm_C d yX12_readUnit cX12_readUnit 2 none (.inr none) hz V) (l0 : Option Nat) (l1 : Int32) (h : MH) (hK : F_X12_readUnit_123 p l0 l1 h = some hz) : V 123 [(0, va_rf l0), (1, .int l1)] [] h := by
  unfold F_X12_readUnit_123 at hK
  refine mm_aload_n C (pc := 123) 0 dX12_readUnit_123 rfl ?_
  replace hK := mm_bd hK; obtain ⟨h124, e124, hK⟩ := hK
  obtain ⟨o124, e124⟩ := cV_some e124
  refine mm_callV C (pc := 124) (d1 := 72) (As := []) (st := []) (vk := none) (((S_G_X12_readAtom 64).2.1 _ (by omega)) e124) tT_X12_readSum o124 (Or.inr ⟨_, rfl, rfl⟩) wd_2246 wd_2248 wd_77 (by omega) (by decide) rfl (by simp [mm_crf, mm_cti, mm_ctl]) rfl dX12_readUnit_124 ?_
  show V _ _ [] _
  refine mm_aload_n C (pc := 127) 0 dX12_readUnit_127 rfl ?_
  refine mm_iload_n C (pc := 128) 1 dX12_readUnit_128 rfl ?_
  refine mm_bipush C (pc := 129) (v := (61 : Int32)) dX12_readUnit_129 (by decide) ?_
  refine mm_icmp_ne C (pc := 131) (tgt := 139) dX12_readUnit_131 (by decide) (fun hc => ?_) (fun hc => ?_)
  · replace hK := mm_in hc hK
    refine mm_iload_n C (pc := 139) 1 dX12_readUnit_139 rfl ?_
    refine mm_bipush C (pc := 140) (v := (60 : Int32)) dX12_readUnit_140 (by decide) ?_
    refine mm_icmp_ne C (pc := 142) (tgt := 150) dX12_readUnit_142 (by decide) (fun hc => ?_) (fun hc => ?_)
    · replace hK := mm_in hc hK
      refine mm_bipush C (pc := 150) (v := (15 : Int32)) dX12_readUnit_150 (by decide) ?_
      refine mm_sub C [] rfl ?_
      exact w_X12_readUnit_152 hd0 hp hd C _ _ _ hK
    · replace hK := mm_ip hc hK
      refine mm_bipush C (pc := 145) (v := (14 : Int32)) dX12_readUnit_145 (by decide) ?_
      refine mm_goto C (pc := 147) (tgt := 152) dX12_readUnit_147 (by decide) ?_
      refine mm_sub C [] rfl ?_
      exact w_X12_readUnit_152 hd0 hp hd C _ _ _ hK
  · replace hK := mm_ip hc hK
    refine mm_bipush C (pc := 134) (v := (13 : Int32)) dX12_readUnit_134 (by decide) ?_
    refine mm_goto C (pc := 136) (tgt := 152) dX12_readUnit_136 (by decide) ?_
    refine mm_sub C [] rfl ?_
    exact w_X12_readUnit_152 hd0 hp hd C _ _ _ hK
def F_X12_readUnit_112 (p : PT_X12_readBoth) (l0 : Option Nat) (l1 : Int32) (h : MH) : Option MH := (gI h l0 12 12).bind fun v113 => if v113 = 0 then ((cV h l0 12 (F_X12_readsOn l0 h)).bind fun h120 => F_X12_readUnit_123 p l0 l1 h120) else (F_X12_readUnit_123 p l0 l1 h)
set_option maxRecDepth 20000 in
set_option maxHeartbeats 4000000 in
theorem w_X12_readUnit_112 {d : Nat} {V : Nat → List (Nat × Value) → List Value → MH → Prop} {hz : MH} {p : PT_X12_readBoth} {d0 : Nat} (hd0 : d0 + 1 ≤ d) (hp : PH_X12_readBoth p d0) (hd : 73 ≤ d) (C : mm_C d yX12_readUnit cX12_readUnit 2 none (.inr none) hz V) (l0 : Option Nat) (l1 : Int32) (h : MH) (hK : F_X12_readUnit_112 p l0 l1 h = some hz) : V 112 [(0, va_rf l0), (1, .int l1)] [] h := by
  unfold F_X12_readUnit_112 at hK
  refine mm_aload_n C (pc := 112) 0 dX12_readUnit_112 rfl ?_
  replace hK := mm_bd hK; obtain ⟨v113, e113, hK⟩ := hK
  refine mm_geti C (pc := 113) (k := 12) inGX12 rfl (by decide) wd_2011 dX12_readUnit_113 e113 ?_
  refine mm_if_ne C (pc := 116) (tgt := 123) dX12_readUnit_116 (by decide) (fun hc => ?_) (fun hc => ?_)
  · replace hK := mm_in hc hK
    exact w_X12_readUnit_123 hd0 hp hd C _ _ _ hK
  · replace hK := mm_ip hc hK
    refine mm_aload_n C (pc := 119) 0 dX12_readUnit_119 rfl ?_
    replace hK := mm_bd hK; obtain ⟨h120, e120, hK⟩ := hK
    obtain ⟨o120, e120⟩ := cV_some e120
    refine mm_callV C (pc := 120) (d1 := 2) (As := []) (st := []) (vk := none) ((S_X12_readsOn (by omega)) e120) tT_X12_readsOn o120 (Or.inr ⟨_, rfl, rfl⟩) wd_2164 wd_2166 wd_62 (by omega) (by decide) rfl (by simp [mm_crf, mm_cti, mm_ctl]) rfl dX12_readUnit_120 ?_
    show V _ _ [] _
    exact w_X12_readUnit_123 hd0 hp hd C _ _ _ hK
def F_X12_readUnit (p : PT_X12_readBoth) (a0 : Option Nat) (h : MH) : Option MH := (gI h a0 12 12).bind fun v1 => if v1 = 0 then (mm_b2 (cV h a0 12 (F_X12_isWord a0 (some 48 : Option Nat) h)) fun v11 h11 => if v11 = 0 then (mm_b2 (cV h11 a0 12 (F_X12_isSign a0 (91 : Int32) h11)) fun v47 h47 => if v47 = 0 then ((cV h47 a0 12 ((G_X12_readAtom 64).2.1 a0 h47)).bind fun h81 => (gI h81 a0 12 10).bind fun v85 => if v85 = (61 : Int32) then (F_X12_readUnit_112 p a0 v85 h81) else (if v85 = (60 : Int32) then (F_X12_readUnit_112 p a0 v85 h81) else (if v85 = (62 : Int32) then (F_X12_readUnit_112 p a0 v85 h81) else ((cV h81 a0 12 (F_X12_blames a0 (2 : Int32) h81)).bind fun h109 => F_X12_readUnit_112 p a0 v85 h109)))) else ((cV h47 a0 12 (F_X12_goesIn a0 h47)).bind fun h54 => (cV h54 a0 12 (p.2.1 a0 h54)).bind fun h58 => (cV h58 a0 12 (F_X12_mustSign a0 (93 : Int32) h58)).bind fun h64 => (gI h64 a0 12 16).bind fun v69 => (pI h64 a0 12 16 (v69 - (1 : Int32))).bind fun h74 => F_X12_readUnit_155 p h74)) else ((cV h11 a0 12 (F_X12_goesIn a0 h11)).bind fun h18 => (cV h18 a0 12 (p.2.2 a0 h18)).bind fun h22 => (cV h22 a0 12 (F_X12_laysStep a0 (18 : Int32) h22)).bind fun h28 => (gI h28 a0 12 16).bind fun v33 => (pI h28 a0 12 16 (v33 - (1 : Int32))).bind fun h38 => F_X12_readUnit_155 p h38)) else (some h)
set_option maxRecDepth 20000 in
set_option maxHeartbeats 4000000 in
theorem S_X12_readUnit {d : Nat} {p : PT_X12_readBoth} {d0 : Nat} (hd0 : d0 + 1 ≤ d) (hp : PH_X12_readBoth p d0) (hd : 73 ≤ d) {a0 : Option Nat} {h : MH} {hz : MH} (hK : F_X12_readUnit p a0 h = some hz) : mm_M yX12_readUnit cX12_readUnit 2 none d [va_rf a0] h (.inr none) hz := by
  refine mm_ofV (by decide +kernel) (by simp [lg_sl, mm_crf, mm_cti, mm_ctl]) (fun V C => ?_)
  rw [show lv_args 0 [va_rf a0] = [(0, va_rf a0)] by simp [lv_args, mm_crf, mm_cti, mm_ctl]]
  unfold F_X12_readUnit at hK
  refine mm_aload_n C (pc := 0) 0 dX12_readUnit_0 rfl ?_
  replace hK := mm_bd hK; obtain ⟨v1, e1, hK⟩ := hK
  refine mm_geti C (pc := 1) (k := 12) inGX12 rfl (by decide) wd_2011 dX12_readUnit_1 e1 ?_
  refine mm_if_eq C (pc := 4) (tgt := 8) dX12_readUnit_4 (by decide) (fun hc => ?_) (fun hc => ?_)
  · replace hK := mm_ip hc hK
    refine mm_aload_n C (pc := 8) 0 dX12_readUnit_8 rfl ?_
    refine mm_ldcS C (pc := 9) (i := 48) (by decide) (by rfl) dX12_readUnit_9 ?_
    replace hK := mm_b2s hK; obtain ⟨v11, h11, e11, hK⟩ := hK
    obtain ⟨o11, e11⟩ := cV_some e11
    refine mm_callV C (pc := 11) (d1 := 5) (As := [va_rf (some 48 : Option Nat)]) (st := []) (vk := (some (.int v11))) ((S_X12_isWord (by omega)) e11) tT_X12_isWord o11 (Or.inr ⟨_, rfl, rfl⟩) wd_2190 wd_2192 wd_66 (by omega) (by decide) rfl (by simp [mm_crf, mm_cti, mm_ctl]) rfl dX12_readUnit_11 ?_
    show V _ _ (.int v11 :: _) _
    refine mm_if_eq C (pc := 14) (tgt := 44) dX12_readUnit_14 (by decide) (fun hc => ?_) (fun hc => ?_)
    · replace hK := mm_ip hc hK
      refine mm_aload_n C (pc := 44) 0 dX12_readUnit_44 rfl ?_
      refine mm_bipush C (pc := 45) (v := (91 : Int32)) dX12_readUnit_45 (by decide) ?_
      replace hK := mm_b2s hK; obtain ⟨v47, h47, e47, hK⟩ := hK
      obtain ⟨o47, e47⟩ := cV_some e47
      refine mm_callV C (pc := 47) (d1 := 1) (As := [.int (91 : Int32)]) (st := []) (vk := (some (.int v47))) ((S_X12_isSign (by omega)) e47) tT_X12_isSign o47 (Or.inr ⟨_, rfl, rfl⟩) wd_2271 wd_2273 wd_82 (by omega) (by decide) rfl (by simp [mm_crf, mm_cti, mm_ctl]) rfl dX12_readUnit_47 ?_
      show V _ _ (.int v47 :: _) _
      refine mm_if_eq C (pc := 50) (tgt := 80) dX12_readUnit_50 (by decide) (fun hc => ?_) (fun hc => ?_)
      · replace hK := mm_ip hc hK
        refine mm_aload_n C (pc := 80) 0 dX12_readUnit_80 rfl ?_
        replace hK := mm_bd hK; obtain ⟨h81, e81, hK⟩ := hK
        obtain ⟨o81, e81⟩ := cV_some e81
        refine mm_callV C (pc := 81) (d1 := 72) (As := []) (st := []) (vk := none) (((S_G_X12_readAtom 64).2.1 _ (by omega)) e81) tT_X12_readSum o81 (Or.inr ⟨_, rfl, rfl⟩) wd_2246 wd_2248 wd_77 (by omega) (by decide) rfl (by simp [mm_crf, mm_cti, mm_ctl]) rfl dX12_readUnit_81 ?_
        show V _ _ [] _
        refine mm_aload_n C (pc := 84) 0 dX12_readUnit_84 rfl ?_
        replace hK := mm_bd hK; obtain ⟨v85, e85, hK⟩ := hK
        refine mm_geti C (pc := 85) (k := 10) inGX12 rfl (by decide) wd_2009 dX12_readUnit_85 e85 ?_
        refine mm_istore_n C (pc := 88) (i := 1) (lv' := [(1, .int v85), (0, va_rf a0)]) dX12_readUnit_88 rfl (by decide) (by simp [mm_crf]) ?_
        refine mm_iload_n C (pc := 89) 0 dX12_readUnit_89 rfl ?_
        refine mm_bipush C (pc := 90) (v := (61 : Int32)) dX12_readUnit_90 (by decide) ?_
        refine mm_icmp_eq C (pc := 92) (tgt := 112) dX12_readUnit_92 (by decide) (fun hc => ?_) (fun hc => ?_)
        · replace hK := mm_ip hc hK
          refine mm_sub C [1, 0] rfl ?_
          exact w_X12_readUnit_112 hd0 hp hd C _ _ _ hK
        · replace hK := mm_in hc hK
          refine mm_iload_n C (pc := 95) 0 dX12_readUnit_95 rfl ?_
          refine mm_bipush C (pc := 96) (v := (60 : Int32)) dX12_readUnit_96 (by decide) ?_
          refine mm_icmp_eq C (pc := 98) (tgt := 112) dX12_readUnit_98 (by decide) (fun hc => ?_) (fun hc => ?_)
          · replace hK := mm_ip hc hK
            refine mm_sub C [1, 0] rfl ?_
            exact w_X12_readUnit_112 hd0 hp hd C _ _ _ hK
          · replace hK := mm_in hc hK
            refine mm_iload_n C (pc := 101) 0 dX12_readUnit_101 rfl ?_
            refine mm_bipush C (pc := 102) (v := (62 : Int32)) dX12_readUnit_102 (by decide) ?_
            refine mm_icmp_eq C (pc := 104) (tgt := 112) dX12_readUnit_104 (by decide) (fun hc => ?_) (fun hc => ?_)
            · replace hK := mm_ip hc hK
              refine mm_sub C [1, 0] rfl ?_
              exact w_X12_readUnit_112 hd0 hp hd C _ _ _ hK
            · replace hK := mm_in hc hK
              refine mm_aload_n C (pc := 107) 1 dX12_readUnit_107 rfl ?_
              refine mm_iconst C (pc := 108) (v := (2 : Int32)) dX12_readUnit_108 (by decide) ?_
              replace hK := mm_bd hK; obtain ⟨h109, e109, hK⟩ := hK
              obtain ⟨o109, e109⟩ := cV_some e109
              refine mm_callV C (pc := 109) (d1 := 1) (As := [.int (2 : Int32)]) (st := []) (vk := none) ((S_X12_blames (by omega)) e109) tT_X12_blames o109 (Or.inr ⟨_, rfl, rfl⟩) wd_2196 wd_2198 wd_67 (by omega) (by decide) rfl (by simp [mm_crf, mm_cti, mm_ctl]) rfl dX12_readUnit_109 ?_
              show V _ _ [] _
              refine mm_sub C [1, 0] rfl ?_
              exact w_X12_readUnit_112 hd0 hp hd C _ _ _ hK
      · replace hK := mm_in hc hK
        refine mm_aload_n C (pc := 53) 0 dX12_readUnit_53 rfl ?_
        replace hK := mm_bd hK; obtain ⟨h54, e54, hK⟩ := hK
        obtain ⟨o54, e54⟩ := cV_some e54
        refine mm_callV C (pc := 54) (d1 := 3) (As := []) (st := []) (vk := none) ((S_X12_goesIn (by omega)) e54) tT_X12_goesIn o54 (Or.inr ⟨_, rfl, rfl⟩) wd_2275 wd_2277 wd_83 (by omega) (by decide) rfl (by simp [mm_crf, mm_cti, mm_ctl]) rfl dX12_readUnit_54 ?_
        show V _ _ [] _
        refine mm_aload_n C (pc := 57) 0 dX12_readUnit_57 rfl ?_
        replace hK := mm_bd hK; obtain ⟨h58, e58, hK⟩ := hK
        obtain ⟨o58, e58⟩ := cV_some e58
        refine mm_callV C (pc := 58) (d1 := d0) (As := []) (st := []) (vk := none) ((hp.2.1 _ (by omega) ) e58) tT_X12_readTruth o58 (Or.inr ⟨_, rfl, rfl⟩) wd_2280 wd_2282 wd_84 (by omega) (by decide) rfl (by simp [mm_crf, mm_cti, mm_ctl]) rfl dX12_readUnit_58 ?_
        show V _ _ [] _
        refine mm_aload_n C (pc := 61) 0 dX12_readUnit_61 rfl ?_
        refine mm_bipush C (pc := 62) (v := (93 : Int32)) dX12_readUnit_62 (by decide) ?_
        replace hK := mm_bd hK; obtain ⟨h64, e64, hK⟩ := hK
        obtain ⟨o64, e64⟩ := cV_some e64
        refine mm_callV C (pc := 64) (d1 := 3) (As := [.int (93 : Int32)]) (st := []) (vk := none) ((S_X12_mustSign (by omega)) e64) tT_X12_mustSign o64 (Or.inr ⟨_, rfl, rfl⟩) wd_2208 wd_2210 wd_70 (by omega) (by decide) rfl (by simp [mm_crf, mm_cti, mm_ctl]) rfl dX12_readUnit_64 ?_
        show V _ _ [] _
        refine mm_aload_n C (pc := 67) 0 dX12_readUnit_67 rfl ?_
        refine mm_dup C (pc := 68) dX12_readUnit_68 mm_crf ?_
        replace hK := mm_bd hK; obtain ⟨v69, e69, hK⟩ := hK
        refine mm_geti C (pc := 69) (k := 16) inGX12 rfl (by decide) wd_2015 dX12_readUnit_69 e69 ?_
        refine mm_iconst C (pc := 72) (v := (1 : Int32)) dX12_readUnit_72 (by decide) ?_
        refine mm_isub C (pc := 73) dX12_readUnit_73 ?_
        replace hK := mm_bd hK; obtain ⟨h74, e74, hK⟩ := hK
        refine mm_puti C (pc := 74) (k := 16) false (fun z => by cases z) inGX12 tyX12 tyX12_ok nmX12 rfl (by decide) wd_2015 rfl rfl dX12_readUnit_74 e74 ?_
        refine mm_goto C (pc := 77) (tgt := 155) dX12_readUnit_77 (by decide) ?_
        refine mm_sub C [] rfl ?_
        exact w_X12_readUnit_155 hd0 hp hd C _ hK
    · replace hK := mm_in hc hK
      refine mm_aload_n C (pc := 17) 0 dX12_readUnit_17 rfl ?_
      replace hK := mm_bd hK; obtain ⟨h18, e18, hK⟩ := hK
      obtain ⟨o18, e18⟩ := cV_some e18
      refine mm_callV C (pc := 18) (d1 := 3) (As := []) (st := []) (vk := none) ((S_X12_goesIn (by omega)) e18) tT_X12_goesIn o18 (Or.inr ⟨_, rfl, rfl⟩) wd_2275 wd_2277 wd_83 (by omega) (by decide) rfl (by simp [mm_crf, mm_cti, mm_ctl]) rfl dX12_readUnit_18 ?_
      show V _ _ [] _
      refine mm_aload_n C (pc := 21) 0 dX12_readUnit_21 rfl ?_
      replace hK := mm_bd hK; obtain ⟨h22, e22, hK⟩ := hK
      obtain ⟨o22, e22⟩ := cV_some e22
      refine mm_callV C (pc := 22) (d1 := d0) (As := []) (st := []) (vk := none) ((hp.2.2 _ (by omega) ) e22) tT_X12_readUnit o22 (Or.inr ⟨_, rfl, rfl⟩) wd_2288 wd_2290 wd_86 (by omega) (by decide) rfl (by simp [mm_crf, mm_cti, mm_ctl]) rfl dX12_readUnit_22 ?_
      show V _ _ [] _
      refine mm_aload_n C (pc := 25) 0 dX12_readUnit_25 rfl ?_
      refine mm_bipush C (pc := 26) (v := (18 : Int32)) dX12_readUnit_26 (by decide) ?_
      replace hK := mm_bd hK; obtain ⟨h28, e28, hK⟩ := hK
      obtain ⟨o28, e28⟩ := cV_some e28
      refine mm_callV C (pc := 28) (d1 := 1) (As := [.int (18 : Int32)]) (st := []) (vk := none) ((S_X12_laysStep (by omega)) e28) tT_X12_laysStep o28 (Or.inr ⟨_, rfl, rfl⟩) wd_2267 wd_2269 wd_81 (by omega) (by decide) rfl (by simp [mm_crf, mm_cti, mm_ctl]) rfl dX12_readUnit_28 ?_
      show V _ _ [] _
      refine mm_aload_n C (pc := 31) 0 dX12_readUnit_31 rfl ?_
      refine mm_dup C (pc := 32) dX12_readUnit_32 mm_crf ?_
      replace hK := mm_bd hK; obtain ⟨v33, e33, hK⟩ := hK
      refine mm_geti C (pc := 33) (k := 16) inGX12 rfl (by decide) wd_2015 dX12_readUnit_33 e33 ?_
      refine mm_iconst C (pc := 36) (v := (1 : Int32)) dX12_readUnit_36 (by decide) ?_
      refine mm_isub C (pc := 37) dX12_readUnit_37 ?_
      replace hK := mm_bd hK; obtain ⟨h38, e38, hK⟩ := hK
      refine mm_puti C (pc := 38) (k := 16) false (fun z => by cases z) inGX12 tyX12 tyX12_ok nmX12 rfl (by decide) wd_2015 rfl rfl dX12_readUnit_38 e38 ?_
      refine mm_goto C (pc := 41) (tgt := 155) dX12_readUnit_41 (by decide) ?_
      refine mm_sub C [] rfl ?_
      exact w_X12_readUnit_155 hd0 hp hd C _ hK
  · replace hK := mm_in hc hK
    cases hK
    exact mm_vret C (pc := 7) rfl dX12_readUnit_7 rfl rfl
def G_X12_readBoth : Nat → PT_X12_readBoth
  | 0 => ((fun _ _ => none), (fun _ _ => none), (fun _ _ => none))
  | n + 1 => ((fun a0 h => F_X12_readBoth (G_X12_readBoth n) a0 h), (fun a0 h => F_X12_readTruth (G_X12_readBoth n) a0 h), (fun a0 h => F_X12_readUnit (G_X12_readBoth n) a0 h))
theorem S_G_X12_readBoth : ∀ n : Nat, PH_X12_readBoth (G_X12_readBoth n) (73 + n) := by
  intro n
  induction n with
  | zero => exact ⟨fun d hd _ _ _ hK => (by cases hK), fun d hd _ _ _ hK => (by cases hK), fun d hd _ _ _ hK => (by cases hK)⟩
  | succ n ih => exact ⟨fun d hd _ _ _ hK => S_X12_readBoth (p := G_X12_readBoth n) (d0 := 73 + n) (by omega) ih (by omega) hK, fun d hd _ _ _ hK => S_X12_readTruth (p := G_X12_readBoth n) (d0 := 73 + n) (by omega) ih (by omega) hK, fun d hd _ _ _ hK => S_X12_readUnit (p := G_X12_readBoth n) (d0 := 73 + n) (by omega) ih (by omega) hK⟩
def F_X12_begins_38 (s0 : Int32) (h : MH) : Option (Int32 × MH) := rZ s0 h
set_option maxRecDepth 20000 in
set_option maxHeartbeats 4000000 in
theorem w_X12_begins_38 {d : Nat} {V : Nat → List (Nat × Value) → List Value → MH → Prop} {r : Int32} {hz : MH} (hd : 3 ≤ d) (C : mm_C d yX12_begins cX12_begins 3 (some .boolean) (.inr (some (.int r))) hz V) (s0 : Int32) (h : MH) (hK : F_X12_begins_38 s0 h = some (r, hz)) : V 38 [] [.int s0] h := by
  unfold F_X12_begins_38 at hK
  replace hK := rZ_some hK; obtain ⟨hv38, hK⟩ := hK
  cases hK
  exact mm_zret C (pc := 38) rfl (mm_nrZ hv38) dX12_begins_38 rfl rfl
def F_X12_begins_26 (l0 : Option Nat) (h : MH) : Option (Int32 × MH) := (gI h l0 12 12).bind fun v27 => if v27 = 0 then (F_X12_begins_38 (1 : Int32) h) else (F_X12_begins_38 (0 : Int32) h)
set_option maxRecDepth 20000 in
set_option maxHeartbeats 4000000 in
theorem w_X12_begins_26 {d : Nat} {V : Nat → List (Nat × Value) → List Value → MH → Prop} {r : Int32} {hz : MH} (hd : 3 ≤ d) (C : mm_C d yX12_begins cX12_begins 3 (some .boolean) (.inr (some (.int r))) hz V) (l0 : Option Nat) (h : MH) (hK : F_X12_begins_26 l0 h = some (r, hz)) : V 26 [(0, va_rf l0)] [] h := by
  unfold F_X12_begins_26 at hK
  refine mm_aload_n C (pc := 26) 0 dX12_begins_26 rfl ?_
  replace hK := mm_bd hK; obtain ⟨v27, e27, hK⟩ := hK
  refine mm_geti C (pc := 27) (k := 12) inGX12 rfl (by decide) wd_2011 dX12_begins_27 e27 ?_
  refine mm_if_ne C (pc := 30) (tgt := 37) dX12_begins_30 (by decide) (fun hc => ?_) (fun hc => ?_)
  · replace hK := mm_in hc hK
    refine mm_iconst C (pc := 37) (v := (0 : Int32)) dX12_begins_37 (by decide) ?_
    refine mm_sub C [] rfl ?_
    exact w_X12_begins_38 hd C _ _ hK
  · replace hK := mm_ip hc hK
    refine mm_iconst C (pc := 33) (v := (1 : Int32)) dX12_begins_33 (by decide) ?_
    refine mm_goto C (pc := 34) (tgt := 38) dX12_begins_34 (by decide) ?_
    refine mm_sub C [] rfl ?_
    exact w_X12_begins_38 hd C _ _ hK
def F_X12_begins_15 (l0 : Option Nat) (h : MH) : Option (Int32 × MH) := (gI h l0 12 12).bind fun v16 => if v16 = 0 then ((cV h l0 12 (F_X12_readsOn l0 h)).bind fun h23 => F_X12_begins_26 l0 h23) else (F_X12_begins_26 l0 h)
set_option maxRecDepth 20000 in
set_option maxHeartbeats 4000000 in
theorem w_X12_begins_15 {d : Nat} {V : Nat → List (Nat × Value) → List Value → MH → Prop} {r : Int32} {hz : MH} (hd : 3 ≤ d) (C : mm_C d yX12_begins cX12_begins 3 (some .boolean) (.inr (some (.int r))) hz V) (l0 : Option Nat) (h : MH) (hK : F_X12_begins_15 l0 h = some (r, hz)) : V 15 [(0, va_rf l0)] [] h := by
  unfold F_X12_begins_15 at hK
  refine mm_aload_n C (pc := 15) 0 dX12_begins_15 rfl ?_
  replace hK := mm_bd hK; obtain ⟨v16, e16, hK⟩ := hK
  refine mm_geti C (pc := 16) (k := 12) inGX12 rfl (by decide) wd_2011 dX12_begins_16 e16 ?_
  refine mm_if_ne C (pc := 19) (tgt := 26) dX12_begins_19 (by decide) (fun hc => ?_) (fun hc => ?_)
  · replace hK := mm_in hc hK
    exact w_X12_begins_26 hd C _ _ hK
  · replace hK := mm_ip hc hK
    refine mm_aload_n C (pc := 22) 0 dX12_begins_22 rfl ?_
    replace hK := mm_bd hK; obtain ⟨h23, e23, hK⟩ := hK
    obtain ⟨o23, e23⟩ := cV_some e23
    refine mm_callV C (pc := 23) (d1 := 2) (As := []) (st := []) (vk := none) ((S_X12_readsOn (by omega)) e23) tT_X12_readsOn o23 (Or.inr ⟨_, rfl, rfl⟩) wd_2164 wd_2166 wd_62 (by omega) (by decide) rfl (by simp [mm_crf, mm_cti, mm_ctl]) rfl dX12_begins_23 ?_
    show V _ _ [] _
    exact w_X12_begins_26 hd C _ _ hK
def F_X12_begins (a0 : Option Nat) (a1 : Int32) (a2 : Int32) (h : MH) : Option (Int32 × MH) := (gR h a0 12 1).bind fun v1 => (aI h v1 0 a1).bind fun v5 => if v5 = a2 then ((cV h a0 12 (F_X12_blames a0 (4 : Int32) h)).bind fun h12 => F_X12_begins_15 a0 h12) else (F_X12_begins_15 a0 h)
set_option maxRecDepth 20000 in
set_option maxHeartbeats 4000000 in
theorem S_X12_begins {d : Nat} (hd : 3 ≤ d) {a0 : Option Nat} {a1 : Int32} {a2 : Int32} {h : MH} {r : Int32} {hz : MH} (hK : F_X12_begins a0 a1 a2 h = some (r, hz)) : mm_M yX12_begins cX12_begins 3 (some .boolean) d [va_rf a0, .int a1, .int a2] h (.inr (some (.int r))) hz := by
  refine mm_ofV (by decide +kernel) (by simp [lg_sl, mm_crf, mm_cti, mm_ctl]) (fun V C => ?_)
  rw [show lv_args 0 [va_rf a0, .int a1, .int a2] = [(0, va_rf a0), (1, .int a1), (2, .int a2)] by simp [lv_args, mm_crf, mm_cti, mm_ctl]]
  unfold F_X12_begins at hK
  refine mm_aload_n C (pc := 0) 0 dX12_begins_0 rfl ?_
  replace hK := mm_bd hK; obtain ⟨v1, e1, hK⟩ := hK
  refine mm_getr C (pc := 1) (k := 1) inGX12 rfl (by decide) wd_2000 dX12_begins_1 e1 ?_
  refine mm_iload_n C (pc := 4) 1 dX12_begins_4 rfl ?_
  replace hK := mm_bd hK; obtain ⟨v5, e5, hK⟩ := hK
  refine mm_iald C (pc := 5) dX12_begins_5 e5 ?_
  refine mm_iload_n C (pc := 6) 2 dX12_begins_6 rfl ?_
  refine mm_icmp_ne C (pc := 7) (tgt := 15) dX12_begins_7 (by decide) (fun hc => ?_) (fun hc => ?_)
  · replace hK := mm_in hc hK
    refine mm_sub C [0] rfl ?_
    exact w_X12_begins_15 hd C _ _ hK
  · replace hK := mm_ip hc hK
    refine mm_aload_n C (pc := 10) 0 dX12_begins_10 rfl ?_
    refine mm_iconst C (pc := 11) (v := (4 : Int32)) dX12_begins_11 (by decide) ?_
    replace hK := mm_bd hK; obtain ⟨h12, e12, hK⟩ := hK
    obtain ⟨o12, e12⟩ := cV_some e12
    refine mm_callV C (pc := 12) (d1 := 1) (As := [.int (4 : Int32)]) (st := []) (vk := none) ((S_X12_blames (by omega)) e12) tT_X12_blames o12 (Or.inr ⟨_, rfl, rfl⟩) wd_2196 wd_2198 wd_67 (by omega) (by decide) rfl (by simp [mm_crf, mm_cti, mm_ctl]) rfl dX12_begins_12 ?_
    show V _ _ [] _
    refine mm_sub C [0] rfl ?_
    exact w_X12_begins_15 hd C _ _ hK
def F_X12_lineTold (a0 : Option Nat) (h : MH) : Option (Int32 × MH) := (gR h a0 12 1).bind fun v3 => (aI h v3 0 (1 : Int32)).bind fun v7 => mm_b2 (cV h a0 12 (F_X12_number a0 (0 : Int32) (v7 - (1 : Int32)) h)) fun v10 h10 => some (v10, h10)
set_option maxRecDepth 20000 in
set_option maxHeartbeats 4000000 in
theorem S_X12_lineTold {d : Nat} (hd : 4 ≤ d) {a0 : Option Nat} {h : MH} {r : Int32} {hz : MH} (hK : F_X12_lineTold a0 h = some (r, hz)) : mm_M yX12_lineTold cX12_lineTold 1 (some .int) d [va_rf a0] h (.inr (some (.int r))) hz := by
  refine mm_ofV (by decide +kernel) (by simp [lg_sl, mm_crf, mm_cti, mm_ctl]) (fun V C => ?_)
  rw [show lv_args 0 [va_rf a0] = [(0, va_rf a0)] by simp [lv_args, mm_crf, mm_cti, mm_ctl]]
  unfold F_X12_lineTold at hK
  refine mm_aload_n C (pc := 0) 0 dX12_lineTold_0 rfl ?_
  refine mm_iconst C (pc := 1) (v := (0 : Int32)) dX12_lineTold_1 (by decide) ?_
  refine mm_aload_n C (pc := 2) 0 dX12_lineTold_2 rfl ?_
  replace hK := mm_bd hK; obtain ⟨v3, e3, hK⟩ := hK
  refine mm_getr C (pc := 3) (k := 1) inGX12 rfl (by decide) wd_2000 dX12_lineTold_3 e3 ?_
  refine mm_iconst C (pc := 6) (v := (1 : Int32)) dX12_lineTold_6 (by decide) ?_
  replace hK := mm_bd hK; obtain ⟨v7, e7, hK⟩ := hK
  refine mm_iald C (pc := 7) dX12_lineTold_7 e7 ?_
  refine mm_iconst C (pc := 8) (v := (1 : Int32)) dX12_lineTold_8 (by decide) ?_
  refine mm_isub C (pc := 9) dX12_lineTold_9 ?_
  replace hK := mm_b2s hK; obtain ⟨v10, h10, e10, hK⟩ := hK
  obtain ⟨o10, e10⟩ := cV_some e10
  refine mm_callV C (pc := 10) (d1 := 3) (As := [.int (0 : Int32), .int (v7 - (1 : Int32))]) (st := []) (vk := (some (.int v10))) ((S_X12_number (by omega)) e10) tT_X12_number o10 (Or.inr ⟨_, rfl, rfl⟩) wd_2200 wd_2202 wd_68 (by omega) (by decide) rfl (by simp [mm_crf, mm_cti, mm_ctl]) rfl dX12_lineTold_10 ?_
  show V _ _ (.int v10 :: _) _
  cases hK
  exact mm_iret C (pc := 13) rfl dX12_lineTold_13 rfl rfl
theorem wd_2224 : Cond.code yX12_begins cX12_begins 3 (some .boolean) ∈ lw_good := mm_wd 2224 (by decide +kernel) (by decide +kernel)
theorem tT_X12_begins : mm_T yX12_begins cX12_begins 3 (some .boolean) 2 := ⟨wd_2224, wd_170, by decide +kernel, by decide +kernel, by decide +kernel, by decide +kernel⟩
theorem wd_2221 : Cond.methodLink RX12 218 yX12_begins ∈ lw_good := mm_wd 2221 (by decide +kernel) (by decide +kernel)
theorem wd_2223 : Cond.instanceMethod yX12_begins ∈ lw_good := mm_wd 2223 (by decide +kernel) (by decide +kernel)
theorem wd_73 : Cond.selects RX12 yX12_begins yX12_begins ∈ lw_good := mm_wd 73 (by decide +kernel) (by decide +kernel)
theorem wd_2228 : Cond.code yX12_lineTold cX12_lineTold 1 (some .int) ∈ lw_good := mm_wd 2228 (by decide +kernel) (by decide +kernel)
theorem tT_X12_lineTold : mm_T yX12_lineTold cX12_lineTold 1 (some .int) 0 := ⟨wd_2228, wd_170, by decide +kernel, by decide +kernel, by decide +kernel, by decide +kernel⟩
theorem wd_2225 : Cond.methodLink RX12 222 yX12_lineTold ∈ lw_good := mm_wd 2225 (by decide +kernel) (by decide +kernel)
theorem wd_2227 : Cond.instanceMethod yX12_lineTold ∈ lw_good := mm_wd 2227 (by decide +kernel) (by decide +kernel)
theorem wd_74 : Cond.selects RX12 yX12_lineTold yX12_lineTold ∈ lw_good := mm_wd 74 (by decide +kernel) (by decide +kernel)
def F_X12_readCord_78 (l0 : Option Nat) (s0 : Int32) (s1 : Int32) (s2 : Option Nat) (h : MH) : Option MH := (sI h s2 0 s1 s0).bind fun h78 => (gR h78 l0 12 1).bind fun v80 => (aI h78 v80 0 (2 : Int32)).bind fun v85 => (sI h78 v80 0 (2 : Int32) (v85 + (1 : Int32))).bind fun h88 => some h88
set_option maxRecDepth 20000 in
set_option maxHeartbeats 4000000 in
theorem w_X12_readCord_78 {d : Nat} {V : Nat → List (Nat × Value) → List Value → MH → Prop} {hz : MH} (hd : 5 ≤ d) (C : mm_C d yX12_readCord cX12_readCord 2 none (.inr none) hz V) (l0 : Option Nat) (s0 : Int32) (s1 : Int32) (s2 : Option Nat) (h : MH) (hK : F_X12_readCord_78 l0 s0 s1 s2 h = some hz) : V 78 [(0, va_rf l0)] [.int s0, .int s1, va_rf s2] h := by
  unfold F_X12_readCord_78 at hK
  replace hK := mm_bd hK; obtain ⟨h78, e78, hK⟩ := hK
  refine mm_iast C (pc := 78) dX12_readCord_78 e78 ?_
  refine mm_aload_n C (pc := 79) 0 dX12_readCord_79 rfl ?_
  replace hK := mm_bd hK; obtain ⟨v80, e80, hK⟩ := hK
  refine mm_getr C (pc := 80) (k := 1) inGX12 rfl (by decide) wd_2000 dX12_readCord_80 e80 ?_
  refine mm_iconst C (pc := 83) (v := (2 : Int32)) dX12_readCord_83 (by decide) ?_
  refine mm_dup2 C (pc := 84) dX12_readCord_84 rfl mm_crf ?_
  replace hK := mm_bd hK; obtain ⟨v85, e85, hK⟩ := hK
  refine mm_iald C (pc := 85) dX12_readCord_85 e85 ?_
  refine mm_iconst C (pc := 86) (v := (1 : Int32)) dX12_readCord_86 (by decide) ?_
  refine mm_iadd C (pc := 87) dX12_readCord_87 ?_
  replace hK := mm_bd hK; obtain ⟨h88, e88, hK⟩ := hK
  refine mm_iast C (pc := 88) dX12_readCord_88 e88 ?_
  cases hK
  exact mm_vret C (pc := 89) rfl dX12_readCord_89 rfl rfl
def F_X12_readCord_39 (l0 : Option Nat) (l1 : Int32) (h : MH) : Option MH := (gI h l0 12 12).bind fun v40 => if v40 = 0 then ((gR h l0 12 1).bind fun v48 => (gR h l0 12 1).bind fun v54 => (aI h v54 0 (2 : Int32)).bind fun v58 => if l1 = 0 then ((gR h l0 12 1).bind fun v66 => (aI h v66 0 (1 : Int32)).bind fun v70 => F_X12_readCord_78 l0 (((1 : Int32) <<< (v70 &&& 31)) - (1 : Int32)) ((48 : Int32) + v58) v48 h) else (F_X12_readCord_78 l0 l1 ((48 : Int32) + v58) v48 h)) else (some h)
set_option maxRecDepth 20000 in
set_option maxHeartbeats 4000000 in
theorem w_X12_readCord_39 {d : Nat} {V : Nat → List (Nat × Value) → List Value → MH → Prop} {hz : MH} (hd : 5 ≤ d) (C : mm_C d yX12_readCord cX12_readCord 2 none (.inr none) hz V) (l0 : Option Nat) (l1 : Int32) (h : MH) (hK : F_X12_readCord_39 l0 l1 h = some hz) : V 39 [(0, va_rf l0), (1, .int l1)] [] h := by
  unfold F_X12_readCord_39 at hK
  refine mm_aload_n C (pc := 39) 0 dX12_readCord_39 rfl ?_
  replace hK := mm_bd hK; obtain ⟨v40, e40, hK⟩ := hK
  refine mm_geti C (pc := 40) (k := 12) inGX12 rfl (by decide) wd_2011 dX12_readCord_40 e40 ?_
  refine mm_if_eq C (pc := 43) (tgt := 47) dX12_readCord_43 (by decide) (fun hc => ?_) (fun hc => ?_)
  · replace hK := mm_ip hc hK
    refine mm_aload_n C (pc := 47) 0 dX12_readCord_47 rfl ?_
    replace hK := mm_bd hK; obtain ⟨v48, e48, hK⟩ := hK
    refine mm_getr C (pc := 48) (k := 1) inGX12 rfl (by decide) wd_2000 dX12_readCord_48 e48 ?_
    refine mm_bipush C (pc := 51) (v := (48 : Int32)) dX12_readCord_51 (by decide) ?_
    refine mm_aload_n C (pc := 53) 0 dX12_readCord_53 rfl ?_
    replace hK := mm_bd hK; obtain ⟨v54, e54, hK⟩ := hK
    refine mm_getr C (pc := 54) (k := 1) inGX12 rfl (by decide) wd_2000 dX12_readCord_54 e54 ?_
    refine mm_iconst C (pc := 57) (v := (2 : Int32)) dX12_readCord_57 (by decide) ?_
    replace hK := mm_bd hK; obtain ⟨v58, e58, hK⟩ := hK
    refine mm_iald C (pc := 58) dX12_readCord_58 e58 ?_
    refine mm_iadd C (pc := 59) dX12_readCord_59 ?_
    refine mm_iload_n C (pc := 60) 1 dX12_readCord_60 rfl ?_
    refine mm_if_ne C (pc := 61) (tgt := 77) dX12_readCord_61 (by decide) (fun hc => ?_) (fun hc => ?_)
    · replace hK := mm_in hc hK
      refine mm_iload_n C (pc := 77) 1 dX12_readCord_77 rfl ?_
      refine mm_sub C [0] rfl ?_
      exact w_X12_readCord_78 hd C _ _ _ _ _ hK
    · replace hK := mm_ip hc hK
      refine mm_iconst C (pc := 64) (v := (1 : Int32)) dX12_readCord_64 (by decide) ?_
      refine mm_aload_n C (pc := 65) 0 dX12_readCord_65 rfl ?_
      replace hK := mm_bd hK; obtain ⟨v66, e66, hK⟩ := hK
      refine mm_getr C (pc := 66) (k := 1) inGX12 rfl (by decide) wd_2000 dX12_readCord_66 e66 ?_
      refine mm_iconst C (pc := 69) (v := (1 : Int32)) dX12_readCord_69 (by decide) ?_
      replace hK := mm_bd hK; obtain ⟨v70, e70, hK⟩ := hK
      refine mm_iald C (pc := 70) dX12_readCord_70 e70 ?_
      refine mm_ishl C (pc := 71) dX12_readCord_71 ?_
      refine mm_iconst C (pc := 72) (v := (1 : Int32)) dX12_readCord_72 (by decide) ?_
      refine mm_isub C (pc := 73) dX12_readCord_73 ?_
      refine mm_goto C (pc := 74) (tgt := 78) dX12_readCord_74 (by decide) ?_
      refine mm_sub C [0] rfl ?_
      exact w_X12_readCord_78 hd C _ _ _ _ _ hK
  · replace hK := mm_in hc hK
    cases hK
    exact mm_vret C (pc := 46) rfl dX12_readCord_46 rfl rfl
def F_X12_readCord_12 : Nat → Option Nat → Int32 → MH → Option MH
  | 0 => fun _ _ _ => none
  | n + 1 => fun l0 l1 h => (gI h l0 12 12).bind fun v13 => if v13 = 0 then ((gI h l0 12 10).bind fun v20 => if v20 = (2 : Int32) then (mm_b2 (cV h l0 12 (F_X12_lineTold l0 h)) fun v30 h30 => F_X12_readCord_12 n l0 (l1 ||| ((1 : Int32) <<< (v30 &&& 31))) h30) else (F_X12_readCord_39 l0 l1 h)) else (F_X12_readCord_39 l0 l1 h)
set_option maxRecDepth 20000 in
set_option maxHeartbeats 4000000 in
theorem w_X12_readCord_12 {d : Nat} {V : Nat → List (Nat × Value) → List Value → MH → Prop} {hz : MH} (hd : 5 ≤ d) (C : mm_C d yX12_readCord cX12_readCord 2 none (.inr none) hz V) : ∀ (n : Nat) (l0 : Option Nat) (l1 : Int32) (h : MH), F_X12_readCord_12 n l0 l1 h = some hz → V 12 [(0, va_rf l0), (1, .int l1)] [] h := by
  intro n
  induction n with
  | zero => intro l0 l1 h hK; cases hK
  | succ n ih =>
    intro l0 l1 h hK
    replace hK : ((gI h l0 12 12).bind fun v13 => if v13 = 0 then ((gI h l0 12 10).bind fun v20 => if v20 = (2 : Int32) then (mm_b2 (cV h l0 12 (F_X12_lineTold l0 h)) fun v30 h30 => F_X12_readCord_12 n l0 (l1 ||| ((1 : Int32) <<< (v30 &&& 31))) h30) else (F_X12_readCord_39 l0 l1 h)) else (F_X12_readCord_39 l0 l1 h)) = some hz := hK
    refine mm_aload_n C (pc := 12) 0 dX12_readCord_12 rfl ?_
    replace hK := mm_bd hK; obtain ⟨v13, e13, hK⟩ := hK
    refine mm_geti C (pc := 13) (k := 12) inGX12 rfl (by decide) wd_2011 dX12_readCord_13 e13 ?_
    refine mm_if_ne C (pc := 16) (tgt := 39) dX12_readCord_16 (by decide) (fun hc => ?_) (fun hc => ?_)
    · replace hK := mm_in hc hK
      exact w_X12_readCord_39 hd C _ _ _ hK
    · replace hK := mm_ip hc hK
      refine mm_aload_n C (pc := 19) 0 dX12_readCord_19 rfl ?_
      replace hK := mm_bd hK; obtain ⟨v20, e20, hK⟩ := hK
      refine mm_geti C (pc := 20) (k := 10) inGX12 rfl (by decide) wd_2009 dX12_readCord_20 e20 ?_
      refine mm_iconst C (pc := 23) (v := (2 : Int32)) dX12_readCord_23 (by decide) ?_
      refine mm_icmp_ne C (pc := 24) (tgt := 39) dX12_readCord_24 (by decide) (fun hc => ?_) (fun hc => ?_)
      · replace hK := mm_in hc hK
        exact w_X12_readCord_39 hd C _ _ _ hK
      · replace hK := mm_ip hc hK
        refine mm_iload_n C (pc := 27) 1 dX12_readCord_27 rfl ?_
        refine mm_iconst C (pc := 28) (v := (1 : Int32)) dX12_readCord_28 (by decide) ?_
        refine mm_aload_n C (pc := 29) 0 dX12_readCord_29 rfl ?_
        replace hK := mm_b2s hK; obtain ⟨v30, h30, e30, hK⟩ := hK
        obtain ⟨o30, e30⟩ := cV_some e30
        refine mm_callV C (pc := 30) (d1 := 4) (As := []) (st := [.int (1 : Int32), .int l1]) (vk := (some (.int v30))) ((S_X12_lineTold (by omega)) e30) tT_X12_lineTold o30 (Or.inr ⟨_, rfl, rfl⟩) wd_2225 wd_2227 wd_74 (by omega) (by decide) rfl (by simp [mm_crf, mm_cti, mm_ctl]) rfl dX12_readCord_30 ?_
        show V _ _ (.int v30 :: _) _
        refine mm_ishl C (pc := 33) dX12_readCord_33 ?_
        refine mm_ior C (pc := 34) dX12_readCord_34 ?_
        refine mm_istore_n C (pc := 35) (i := 1) (lv' := [(1, .int (l1 ||| ((1 : Int32) <<< (v30 &&& 31)))), (0, va_rf l0)]) dX12_readCord_35 rfl (by decide) (by simp [mm_crf]) ?_
        refine mm_goto C (pc := 36) (tgt := 12) dX12_readCord_36 (by decide) ?_
        refine mm_sub C [1, 0] rfl ?_
        exact ih _ _ _ hK
def F_X12_readCord (a0 : Option Nat) (h : MH) : Option MH := mm_b2 (cV h a0 12 (F_X12_begins a0 (2 : Int32) (3 : Int32) h)) fun v3 h3 => if v3 = 0 then (some h3) else (F_X12_readCord_12 mm_N a0 (0 : Int32) h3)
set_option maxRecDepth 20000 in
set_option maxHeartbeats 4000000 in
theorem S_X12_readCord {d : Nat} (hd : 5 ≤ d) {a0 : Option Nat} {h : MH} {hz : MH} (hK : F_X12_readCord a0 h = some hz) : mm_M yX12_readCord cX12_readCord 2 none d [va_rf a0] h (.inr none) hz := by
  refine mm_ofV (by decide +kernel) (by simp [lg_sl, mm_crf, mm_cti, mm_ctl]) (fun V C => ?_)
  rw [show lv_args 0 [va_rf a0] = [(0, va_rf a0)] by simp [lv_args, mm_crf, mm_cti, mm_ctl]]
  unfold F_X12_readCord at hK
  refine mm_aload_n C (pc := 0) 0 dX12_readCord_0 rfl ?_
  refine mm_iconst C (pc := 1) (v := (2 : Int32)) dX12_readCord_1 (by decide) ?_
  refine mm_iconst C (pc := 2) (v := (3 : Int32)) dX12_readCord_2 (by decide) ?_
  replace hK := mm_b2s hK; obtain ⟨v3, h3, e3, hK⟩ := hK
  obtain ⟨o3, e3⟩ := cV_some e3
  refine mm_callV C (pc := 3) (d1 := 3) (As := [.int (2 : Int32), .int (3 : Int32)]) (st := []) (vk := (some (.int v3))) ((S_X12_begins (by omega)) e3) tT_X12_begins o3 (Or.inr ⟨_, rfl, rfl⟩) wd_2221 wd_2223 wd_73 (by omega) (by decide) rfl (by simp [mm_crf, mm_cti, mm_ctl]) rfl dX12_readCord_3 ?_
  show V _ _ (.int v3 :: _) _
  refine mm_if_ne C (pc := 6) (tgt := 10) dX12_readCord_6 (by decide) (fun hc => ?_) (fun hc => ?_)
  · replace hK := mm_in hc hK
    refine mm_iconst C (pc := 10) (v := (0 : Int32)) dX12_readCord_10 (by decide) ?_
    refine mm_istore_n C (pc := 11) (i := 1) (lv' := [(1, .int (0 : Int32)), (0, va_rf a0)]) dX12_readCord_11 rfl (by decide) (by simp [mm_crf]) ?_
    refine mm_sub C [1, 0] rfl ?_
    exact w_X12_readCord_12 hd C _ _ _ _ hK
  · replace hK := mm_ip hc hK
    cases hK
    exact mm_vret C (pc := 9) rfl dX12_readCord_9 rfl rfl
def F_X12_laysCall (a0 : Option Nat) (a1 : Int32) (a2 : Int32) (a3 : Int32) (a4 : Int32) (h : MH) : Option MH := (aI h a0 0 (7 : Int32)).bind fun v3 => (sI h a0 0 ((51 : Int32) + v3) a1).bind fun h13 => (sI h13 a0 0 ((61 : Int32) + v3) a2).bind fun h21 => (sI h21 a0 0 ((71 : Int32) + v3) a3).bind fun h29 => (sI h29 a0 0 ((81 : Int32) + v3) a4).bind fun h38 => (sI h38 a0 0 ((8 : Int32) + v3) (0 : Int32)).bind fun h46 => (sI h46 a0 0 ((18 : Int32) + v3) ((-1) : Int32)).bind fun h54 => (sI h54 a0 0 ((28 : Int32) + v3) ((-1) : Int32)).bind fun h62 => (aI h62 a0 0 (7 : Int32)).bind fun v67 => (sI h62 a0 0 (7 : Int32) (v67 + (1 : Int32))).bind fun h70 => some h70
set_option maxRecDepth 20000 in
set_option maxHeartbeats 4000000 in
theorem S_X12_laysCall {d : Nat} (hd : 1 ≤ d) {a0 : Option Nat} {a1 : Int32} {a2 : Int32} {a3 : Int32} {a4 : Int32} {h : MH} {hz : MH} (hK : F_X12_laysCall a0 a1 a2 a3 a4 h = some hz) : mm_M yX12_laysCall cX12_laysCall 6 none d [va_rf a0, .int a1, .int a2, .int a3, .int a4] h (.inr none) hz := by
  refine mm_ofV (by decide +kernel) (by simp [lg_sl, mm_crf, mm_cti, mm_ctl]) (fun V C => ?_)
  rw [show lv_args 0 [va_rf a0, .int a1, .int a2, .int a3, .int a4] = [(0, va_rf a0), (1, .int a1), (2, .int a2), (3, .int a3), (4, .int a4)] by simp [lv_args, mm_crf, mm_cti, mm_ctl]]
  unfold F_X12_laysCall at hK
  refine mm_aload_n C (pc := 0) 0 dX12_laysCall_0 rfl ?_
  refine mm_bipush C (pc := 1) (v := (7 : Int32)) dX12_laysCall_1 (by decide) ?_
  replace hK := mm_bd hK; obtain ⟨v3, e3, hK⟩ := hK
  refine mm_iald C (pc := 3) dX12_laysCall_3 e3 ?_
  refine mm_istore C (pc := 4) (i := 5) (lv' := [(5, .int v3), (0, va_rf a0), (1, .int a1), (2, .int a2), (3, .int a3), (4, .int a4)]) dX12_laysCall_4 (by decide) rfl ?_
  refine mm_aload_n C (pc := 6) 1 dX12_laysCall_6 rfl ?_
  refine mm_bipush C (pc := 7) (v := (51 : Int32)) dX12_laysCall_7 (by decide) ?_
  refine mm_iload C (pc := 9) 0 dX12_laysCall_9 rfl ?_
  refine mm_iadd C (pc := 11) dX12_laysCall_11 ?_
  refine mm_iload_n C (pc := 12) 2 dX12_laysCall_12 rfl ?_
  replace hK := mm_bd hK; obtain ⟨h13, e13, hK⟩ := hK
  refine mm_iast C (pc := 13) dX12_laysCall_13 e13 ?_
  refine mm_aload_n C (pc := 14) 1 dX12_laysCall_14 rfl ?_
  refine mm_bipush C (pc := 15) (v := (61 : Int32)) dX12_laysCall_15 (by decide) ?_
  refine mm_iload C (pc := 17) 0 dX12_laysCall_17 rfl ?_
  refine mm_iadd C (pc := 19) dX12_laysCall_19 ?_
  refine mm_iload_n C (pc := 20) 3 dX12_laysCall_20 rfl ?_
  replace hK := mm_bd hK; obtain ⟨h21, e21, hK⟩ := hK
  refine mm_iast C (pc := 21) dX12_laysCall_21 e21 ?_
  refine mm_aload_n C (pc := 22) 1 dX12_laysCall_22 rfl ?_
  refine mm_bipush C (pc := 23) (v := (71 : Int32)) dX12_laysCall_23 (by decide) ?_
  refine mm_iload C (pc := 25) 0 dX12_laysCall_25 rfl ?_
  refine mm_iadd C (pc := 27) dX12_laysCall_27 ?_
  refine mm_iload_n C (pc := 28) 4 dX12_laysCall_28 rfl ?_
  replace hK := mm_bd hK; obtain ⟨h29, e29, hK⟩ := hK
  refine mm_iast C (pc := 29) dX12_laysCall_29 e29 ?_
  refine mm_aload_n C (pc := 30) 1 dX12_laysCall_30 rfl ?_
  refine mm_bipush C (pc := 31) (v := (81 : Int32)) dX12_laysCall_31 (by decide) ?_
  refine mm_iload C (pc := 33) 0 dX12_laysCall_33 rfl ?_
  refine mm_iadd C (pc := 35) dX12_laysCall_35 ?_
  refine mm_iload C (pc := 36) 5 dX12_laysCall_36 rfl ?_
  replace hK := mm_bd hK; obtain ⟨h38, e38, hK⟩ := hK
  refine mm_iast C (pc := 38) dX12_laysCall_38 e38 ?_
  refine mm_aload_n C (pc := 39) 1 dX12_laysCall_39 rfl ?_
  refine mm_bipush C (pc := 40) (v := (8 : Int32)) dX12_laysCall_40 (by decide) ?_
  refine mm_iload C (pc := 42) 0 dX12_laysCall_42 rfl ?_
  refine mm_iadd C (pc := 44) dX12_laysCall_44 ?_
  refine mm_iconst C (pc := 45) (v := (0 : Int32)) dX12_laysCall_45 (by decide) ?_
  replace hK := mm_bd hK; obtain ⟨h46, e46, hK⟩ := hK
  refine mm_iast C (pc := 46) dX12_laysCall_46 e46 ?_
  refine mm_aload_n C (pc := 47) 1 dX12_laysCall_47 rfl ?_
  refine mm_bipush C (pc := 48) (v := (18 : Int32)) dX12_laysCall_48 (by decide) ?_
  refine mm_iload C (pc := 50) 0 dX12_laysCall_50 rfl ?_
  refine mm_iadd C (pc := 52) dX12_laysCall_52 ?_
  refine mm_iconst C (pc := 53) (v := ((-1) : Int32)) dX12_laysCall_53 (by decide) ?_
  replace hK := mm_bd hK; obtain ⟨h54, e54, hK⟩ := hK
  refine mm_iast C (pc := 54) dX12_laysCall_54 e54 ?_
  refine mm_aload_n C (pc := 55) 1 dX12_laysCall_55 rfl ?_
  refine mm_bipush C (pc := 56) (v := (28 : Int32)) dX12_laysCall_56 (by decide) ?_
  refine mm_iload C (pc := 58) 0 dX12_laysCall_58 rfl ?_
  refine mm_iadd C (pc := 60) dX12_laysCall_60 ?_
  refine mm_iconst C (pc := 61) (v := ((-1) : Int32)) dX12_laysCall_61 (by decide) ?_
  replace hK := mm_bd hK; obtain ⟨h62, e62, hK⟩ := hK
  refine mm_iast C (pc := 62) dX12_laysCall_62 e62 ?_
  refine mm_aload_n C (pc := 63) 1 dX12_laysCall_63 rfl ?_
  refine mm_bipush C (pc := 64) (v := (7 : Int32)) dX12_laysCall_64 (by decide) ?_
  refine mm_dup2 C (pc := 66) dX12_laysCall_66 rfl mm_crf ?_
  replace hK := mm_bd hK; obtain ⟨v67, e67, hK⟩ := hK
  refine mm_iald C (pc := 67) dX12_laysCall_67 e67 ?_
  refine mm_iconst C (pc := 68) (v := (1 : Int32)) dX12_laysCall_68 (by decide) ?_
  refine mm_iadd C (pc := 69) dX12_laysCall_69 ?_
  replace hK := mm_bd hK; obtain ⟨h70, e70, hK⟩ := hK
  refine mm_iast C (pc := 70) dX12_laysCall_70 e70 ?_
  cases hK
  exact mm_vret C (pc := 71) rfl dX12_laysCall_71 rfl rfl
theorem wd_2185 : Cond.code yX12_mustWord cX12_mustWord 2 none ∈ lw_good := mm_wd 2185 (by decide +kernel) (by decide +kernel)
theorem tT_X12_mustWord : mm_T yX12_mustWord cX12_mustWord 2 none 1 := ⟨wd_2185, wd_170, by decide +kernel, by decide +kernel, by decide +kernel, by decide +kernel⟩
theorem wd_2182 : Cond.methodLink RX12 225 yX12_mustWord ∈ lw_good := mm_wd 2182 (by decide +kernel) (by decide +kernel)
theorem wd_2184 : Cond.instanceMethod yX12_mustWord ∈ lw_good := mm_wd 2184 (by decide +kernel) (by decide +kernel)
theorem wd_64 : Cond.selects RX12 yX12_mustWord yX12_mustWord ∈ lw_good := mm_wd 64 (by decide +kernel) (by decide +kernel)
theorem wd_2239 : Cond.code yX12_laysCall cX12_laysCall 6 none ∈ lw_good := mm_wd 2239 (by decide +kernel) (by decide +kernel)
theorem tT_X12_laysCall : mm_T yX12_laysCall cX12_laysCall 6 none 5 := ⟨wd_2239, wd_170, by decide +kernel, by decide +kernel, by decide +kernel, by decide +kernel⟩
theorem wd_2237 : Cond.methodLink RX12 233 yX12_laysCall ∈ lw_good := mm_wd 2237 (by decide +kernel) (by decide +kernel)
theorem wd_2238 : Cond.static yX12_laysCall ∈ lw_good := mm_wd 2238 (by decide +kernel) (by decide +kernel)
def F_X12_readCall_105 (h : MH) : Option MH := some h
set_option maxRecDepth 20000 in
set_option maxHeartbeats 4000000 in
theorem w_X12_readCall_105 {d : Nat} {V : Nat → List (Nat × Value) → List Value → MH → Prop} {hz : MH} (hd : 8 ≤ d) (C : mm_C d yX12_readCall cX12_readCall 5 none (.inr none) hz V) (h : MH) (hK : F_X12_readCall_105  h = some hz) : V 105 [] [] h := by
  unfold F_X12_readCall_105 at hK
  cases hK
  exact mm_vret C (pc := 105) rfl dX12_readCall_105 rfl rfl
def F_X12_readCall_51 (l0 : Option Nat) (l1 : Int32) (h : MH) : Option MH := mm_b2 (cV h l0 12 (F_X12_lineTold l0 h)) fun v52 h52 => (cV h52 l0 12 (F_X12_mustWord l0 (some 38 : Option Nat) h52)).bind fun h59 => mm_b2 (cV h59 l0 12 (F_X12_number l0 (0 : Int32) (999 : Int32) h59)) fun v67 h67 => (cV h67 l0 12 (F_X12_mustWord l0 (some 39 : Option Nat) h67)).bind fun h74 => mm_b2 (cV h74 l0 12 (F_X12_number l0 (1 : Int32) (99 : Int32) h74)) fun v81 h81 => (gI h81 l0 12 12).bind fun v87 => if v87 = 0 then ((gR h81 l0 12 1).bind fun v94 => (F_X12_laysCall v94 l1 v52 v67 v81 h81).bind fun h102 => F_X12_readCall_105 h102) else (F_X12_readCall_105 h81)
set_option maxRecDepth 20000 in
set_option maxHeartbeats 4000000 in
theorem w_X12_readCall_51 {d : Nat} {V : Nat → List (Nat × Value) → List Value → MH → Prop} {hz : MH} (hd : 8 ≤ d) (C : mm_C d yX12_readCall cX12_readCall 5 none (.inr none) hz V) (l0 : Option Nat) (l1 : Int32) (h : MH) (hK : F_X12_readCall_51 l0 l1 h = some hz) : V 51 [(0, va_rf l0), (1, .int l1)] [] h := by
  unfold F_X12_readCall_51 at hK
  refine mm_aload_n C (pc := 51) 0 dX12_readCall_51 rfl ?_
  replace hK := mm_b2s hK; obtain ⟨v52, h52, e52, hK⟩ := hK
  obtain ⟨o52, e52⟩ := cV_some e52
  refine mm_callV C (pc := 52) (d1 := 4) (As := []) (st := []) (vk := (some (.int v52))) ((S_X12_lineTold (by omega)) e52) tT_X12_lineTold o52 (Or.inr ⟨_, rfl, rfl⟩) wd_2225 wd_2227 wd_74 (by omega) (by decide) rfl (by simp [mm_crf, mm_cti, mm_ctl]) rfl dX12_readCall_52 ?_
  show V _ _ (.int v52 :: _) _
  refine mm_istore_n C (pc := 55) (i := 2) (lv' := [(2, .int v52), (0, va_rf l0), (1, .int l1)]) dX12_readCall_55 rfl (by decide) rfl ?_
  refine mm_aload_n C (pc := 56) 1 dX12_readCall_56 rfl ?_
  refine mm_ldcS C (pc := 57) (i := 38) (by decide) (by rfl) dX12_readCall_57 ?_
  replace hK := mm_bd hK; obtain ⟨h59, e59, hK⟩ := hK
  obtain ⟨o59, e59⟩ := cV_some e59
  refine mm_callV C (pc := 59) (d1 := 7) (As := [va_rf (some 38 : Option Nat)]) (st := []) (vk := none) ((S_X12_mustWord (by omega)) e59) tT_X12_mustWord o59 (Or.inr ⟨_, rfl, rfl⟩) wd_2182 wd_2184 wd_64 (by omega) (by decide) rfl (by simp [mm_crf, mm_cti, mm_ctl]) rfl dX12_readCall_59 ?_
  show V _ _ [] _
  refine mm_aload_n C (pc := 62) 1 dX12_readCall_62 rfl ?_
  refine mm_iconst C (pc := 63) (v := (0 : Int32)) dX12_readCall_63 (by decide) ?_
  refine mm_sipush C (pc := 64) (v := (999 : Int32)) dX12_readCall_64 (by decide) ?_
  replace hK := mm_b2s hK; obtain ⟨v67, h67, e67, hK⟩ := hK
  obtain ⟨o67, e67⟩ := cV_some e67
  refine mm_callV C (pc := 67) (d1 := 3) (As := [.int (0 : Int32), .int (999 : Int32)]) (st := []) (vk := (some (.int v67))) ((S_X12_number (by omega)) e67) tT_X12_number o67 (Or.inr ⟨_, rfl, rfl⟩) wd_2200 wd_2202 wd_68 (by omega) (by decide) rfl (by simp [mm_crf, mm_cti, mm_ctl]) rfl dX12_readCall_67 ?_
  show V _ _ (.int v67 :: _) _
  refine mm_istore_n C (pc := 70) (i := 3) (lv' := [(3, .int v67), (2, .int v52), (0, va_rf l0), (1, .int l1)]) dX12_readCall_70 rfl (by decide) rfl ?_
  refine mm_aload_n C (pc := 71) 2 dX12_readCall_71 rfl ?_
  refine mm_ldcS C (pc := 72) (i := 39) (by decide) (by rfl) dX12_readCall_72 ?_
  replace hK := mm_bd hK; obtain ⟨h74, e74, hK⟩ := hK
  obtain ⟨o74, e74⟩ := cV_some e74
  refine mm_callV C (pc := 74) (d1 := 7) (As := [va_rf (some 39 : Option Nat)]) (st := []) (vk := none) ((S_X12_mustWord (by omega)) e74) tT_X12_mustWord o74 (Or.inr ⟨_, rfl, rfl⟩) wd_2182 wd_2184 wd_64 (by omega) (by decide) rfl (by simp [mm_crf, mm_cti, mm_ctl]) rfl dX12_readCall_74 ?_
  show V _ _ [] _
  refine mm_aload_n C (pc := 77) 2 dX12_readCall_77 rfl ?_
  refine mm_iconst C (pc := 78) (v := (1 : Int32)) dX12_readCall_78 (by decide) ?_
  refine mm_bipush C (pc := 79) (v := (99 : Int32)) dX12_readCall_79 (by decide) ?_
  replace hK := mm_b2s hK; obtain ⟨v81, h81, e81, hK⟩ := hK
  obtain ⟨o81, e81⟩ := cV_some e81
  refine mm_callV C (pc := 81) (d1 := 3) (As := [.int (1 : Int32), .int (99 : Int32)]) (st := []) (vk := (some (.int v81))) ((S_X12_number (by omega)) e81) tT_X12_number o81 (Or.inr ⟨_, rfl, rfl⟩) wd_2200 wd_2202 wd_68 (by omega) (by decide) rfl (by simp [mm_crf, mm_cti, mm_ctl]) rfl dX12_readCall_81 ?_
  show V _ _ (.int v81 :: _) _
  refine mm_istore C (pc := 84) (i := 4) (lv' := [(4, .int v81), (3, .int v67), (2, .int v52), (0, va_rf l0), (1, .int l1)]) dX12_readCall_84 (by decide) rfl ?_
  refine mm_aload_n C (pc := 86) 3 dX12_readCall_86 rfl ?_
  replace hK := mm_bd hK; obtain ⟨v87, e87, hK⟩ := hK
  refine mm_geti C (pc := 87) (k := 12) inGX12 rfl (by decide) wd_2011 dX12_readCall_87 e87 ?_
  refine mm_if_ne C (pc := 90) (tgt := 105) dX12_readCall_90 (by decide) (fun hc => ?_) (fun hc => ?_)
  · replace hK := mm_in hc hK
    refine mm_sub C [] rfl ?_
    exact w_X12_readCall_105 hd C _ hK
  · replace hK := mm_ip hc hK
    refine mm_aload_n C (pc := 93) 3 dX12_readCall_93 rfl ?_
    replace hK := mm_bd hK; obtain ⟨v94, e94, hK⟩ := hK
    refine mm_getr C (pc := 94) (k := 1) inGX12 rfl (by decide) wd_2000 dX12_readCall_94 e94 ?_
    refine mm_iload_n C (pc := 97) 4 dX12_readCall_97 rfl ?_
    refine mm_iload_n C (pc := 98) 2 dX12_readCall_98 rfl ?_
    refine mm_iload_n C (pc := 99) 1 dX12_readCall_99 rfl ?_
    refine mm_iload C (pc := 100) 0 dX12_readCall_100 rfl ?_
    replace hK := mm_bd hK; obtain ⟨h102, e102, hK⟩ := hK
    refine mm_callS C (pc := 102) (d1 := 1) (As := [va_rf v94, .int l1, .int v52, .int v67, .int v81]) (st := []) (vk := none) ((S_X12_laysCall (by omega)) e102) tT_X12_laysCall wd_2237 wd_2238 (by omega) (by decide) rfl (by simp [mm_crf, mm_cti, mm_ctl]) rfl dX12_readCall_102 ?_
    show V _ _ [] _
    refine mm_sub C [] rfl ?_
    exact w_X12_readCall_105 hd C _ hK
def F_X12_readCall (a0 : Option Nat) (h : MH) : Option MH := mm_b2 (cV h a0 12 (F_X12_begins a0 (7 : Int32) (10 : Int32) h)) fun v5 h5 => if v5 = 0 then (some h5) else (mm_b2 (cV h5 a0 12 (F_X12_lineTold a0 h5)) fun v13 h13 => (cV h13 a0 12 (F_X12_mustWord a0 (some 37 : Option Nat) h13)).bind fun h20 => (gI h20 a0 12 12).bind fun v24 => if v24 = 0 then ((gI h20 a0 12 10).bind fun v31 => if v31 = (2 : Int32) then ((gI h20 a0 12 11).bind fun v39 => if v39 = v13 then ((cV h20 a0 12 (F_X12_blames a0 (3 : Int32) h20)).bind fun h48 => F_X12_readCall_51 a0 v13 h48) else (F_X12_readCall_51 a0 v13 h20)) else (F_X12_readCall_51 a0 v13 h20)) else (F_X12_readCall_51 a0 v13 h20))
set_option maxRecDepth 20000 in
set_option maxHeartbeats 4000000 in
theorem S_X12_readCall {d : Nat} (hd : 8 ≤ d) {a0 : Option Nat} {h : MH} {hz : MH} (hK : F_X12_readCall a0 h = some hz) : mm_M yX12_readCall cX12_readCall 5 none d [va_rf a0] h (.inr none) hz := by
  refine mm_ofV (by decide +kernel) (by simp [lg_sl, mm_crf, mm_cti, mm_ctl]) (fun V C => ?_)
  rw [show lv_args 0 [va_rf a0] = [(0, va_rf a0)] by simp [lv_args, mm_crf, mm_cti, mm_ctl]]
  unfold F_X12_readCall at hK
  refine mm_aload_n C (pc := 0) 0 dX12_readCall_0 rfl ?_
  refine mm_bipush C (pc := 1) (v := (7 : Int32)) dX12_readCall_1 (by decide) ?_
  refine mm_bipush C (pc := 3) (v := (10 : Int32)) dX12_readCall_3 (by decide) ?_
  replace hK := mm_b2s hK; obtain ⟨v5, h5, e5, hK⟩ := hK
  obtain ⟨o5, e5⟩ := cV_some e5
  refine mm_callV C (pc := 5) (d1 := 3) (As := [.int (7 : Int32), .int (10 : Int32)]) (st := []) (vk := (some (.int v5))) ((S_X12_begins (by omega)) e5) tT_X12_begins o5 (Or.inr ⟨_, rfl, rfl⟩) wd_2221 wd_2223 wd_73 (by omega) (by decide) rfl (by simp [mm_crf, mm_cti, mm_ctl]) rfl dX12_readCall_5 ?_
  show V _ _ (.int v5 :: _) _
  refine mm_if_ne C (pc := 8) (tgt := 12) dX12_readCall_8 (by decide) (fun hc => ?_) (fun hc => ?_)
  · replace hK := mm_in hc hK
    refine mm_aload_n C (pc := 12) 0 dX12_readCall_12 rfl ?_
    replace hK := mm_b2s hK; obtain ⟨v13, h13, e13, hK⟩ := hK
    obtain ⟨o13, e13⟩ := cV_some e13
    refine mm_callV C (pc := 13) (d1 := 4) (As := []) (st := []) (vk := (some (.int v13))) ((S_X12_lineTold (by omega)) e13) tT_X12_lineTold o13 (Or.inr ⟨_, rfl, rfl⟩) wd_2225 wd_2227 wd_74 (by omega) (by decide) rfl (by simp [mm_crf, mm_cti, mm_ctl]) rfl dX12_readCall_13 ?_
    show V _ _ (.int v13 :: _) _
    refine mm_istore_n C (pc := 16) (i := 1) (lv' := [(1, .int v13), (0, va_rf a0)]) dX12_readCall_16 rfl (by decide) (by simp [mm_crf]) ?_
    refine mm_aload_n C (pc := 17) 1 dX12_readCall_17 rfl ?_
    refine mm_ldcS C (pc := 18) (i := 37) (by decide) (by rfl) dX12_readCall_18 ?_
    replace hK := mm_bd hK; obtain ⟨h20, e20, hK⟩ := hK
    obtain ⟨o20, e20⟩ := cV_some e20
    refine mm_callV C (pc := 20) (d1 := 7) (As := [va_rf (some 37 : Option Nat)]) (st := []) (vk := none) ((S_X12_mustWord (by omega)) e20) tT_X12_mustWord o20 (Or.inr ⟨_, rfl, rfl⟩) wd_2182 wd_2184 wd_64 (by omega) (by decide) rfl (by simp [mm_crf, mm_cti, mm_ctl]) rfl dX12_readCall_20 ?_
    show V _ _ [] _
    refine mm_aload_n C (pc := 23) 1 dX12_readCall_23 rfl ?_
    replace hK := mm_bd hK; obtain ⟨v24, e24, hK⟩ := hK
    refine mm_geti C (pc := 24) (k := 12) inGX12 rfl (by decide) wd_2011 dX12_readCall_24 e24 ?_
    refine mm_if_ne C (pc := 27) (tgt := 51) dX12_readCall_27 (by decide) (fun hc => ?_) (fun hc => ?_)
    · replace hK := mm_in hc hK
      refine mm_sub C [1, 0] rfl ?_
      exact w_X12_readCall_51 hd C _ _ _ hK
    · replace hK := mm_ip hc hK
      refine mm_aload_n C (pc := 30) 1 dX12_readCall_30 rfl ?_
      replace hK := mm_bd hK; obtain ⟨v31, e31, hK⟩ := hK
      refine mm_geti C (pc := 31) (k := 10) inGX12 rfl (by decide) wd_2009 dX12_readCall_31 e31 ?_
      refine mm_iconst C (pc := 34) (v := (2 : Int32)) dX12_readCall_34 (by decide) ?_
      refine mm_icmp_ne C (pc := 35) (tgt := 51) dX12_readCall_35 (by decide) (fun hc => ?_) (fun hc => ?_)
      · replace hK := mm_in hc hK
        refine mm_sub C [1, 0] rfl ?_
        exact w_X12_readCall_51 hd C _ _ _ hK
      · replace hK := mm_ip hc hK
        refine mm_aload_n C (pc := 38) 1 dX12_readCall_38 rfl ?_
        replace hK := mm_bd hK; obtain ⟨v39, e39, hK⟩ := hK
        refine mm_geti C (pc := 39) (k := 11) inGX12 rfl (by decide) wd_2010 dX12_readCall_39 e39 ?_
        refine mm_iload_n C (pc := 42) 0 dX12_readCall_42 rfl ?_
        refine mm_icmp_ne C (pc := 43) (tgt := 51) dX12_readCall_43 (by decide) (fun hc => ?_) (fun hc => ?_)
        · replace hK := mm_in hc hK
          refine mm_sub C [1, 0] rfl ?_
          exact w_X12_readCall_51 hd C _ _ _ hK
        · replace hK := mm_ip hc hK
          refine mm_aload_n C (pc := 46) 1 dX12_readCall_46 rfl ?_
          refine mm_iconst C (pc := 47) (v := (3 : Int32)) dX12_readCall_47 (by decide) ?_
          replace hK := mm_bd hK; obtain ⟨h48, e48, hK⟩ := hK
          obtain ⟨o48, e48⟩ := cV_some e48
          refine mm_callV C (pc := 48) (d1 := 1) (As := [.int (3 : Int32)]) (st := []) (vk := none) ((S_X12_blames (by omega)) e48) tT_X12_blames o48 (Or.inr ⟨_, rfl, rfl⟩) wd_2196 wd_2198 wd_67 (by omega) (by decide) rfl (by simp [mm_crf, mm_cti, mm_ctl]) rfl dX12_readCall_48 ?_
          show V _ _ [] _
          refine mm_sub C [1, 0] rfl ?_
          exact w_X12_readCall_51 hd C _ _ _ hK
  · replace hK := mm_ip hc hK
    cases hK
    exact mm_vret C (pc := 11) rfl dX12_readCall_11 rfl rfl
def F_X12_readStop_23 (h : MH) : Option MH := some h
set_option maxRecDepth 20000 in
set_option maxHeartbeats 4000000 in
theorem w_X12_readStop_23 {d : Nat} {V : Nat → List (Nat × Value) → List Value → MH → Prop} {hz : MH} (hd : 4 ≤ d) (C : mm_C d yX12_readStop cX12_readStop 1 none (.inr none) hz V) (h : MH) (hK : F_X12_readStop_23  h = some hz) : V 23 [] [] h := by
  unfold F_X12_readStop_23 at hK
  cases hK
  exact mm_vret C (pc := 23) rfl dX12_readStop_23 rfl rfl
def F_X12_readStop (a0 : Option Nat) (h : MH) : Option MH := (cV h a0 12 (F_X12_mustSign a0 (59 : Int32) h)).bind fun h3 => (gI h3 a0 12 12).bind fun v7 => if v7 = 0 then ((gR h3 a0 12 1).bind fun v14 => (aI h3 v14 0 (0 : Int32)).bind fun v19 => (sI h3 v14 0 (0 : Int32) (v19 + (1 : Int32))).bind fun h22 => F_X12_readStop_23 h22) else (F_X12_readStop_23 h3)
set_option maxRecDepth 20000 in
set_option maxHeartbeats 4000000 in
theorem S_X12_readStop {d : Nat} (hd : 4 ≤ d) {a0 : Option Nat} {h : MH} {hz : MH} (hK : F_X12_readStop a0 h = some hz) : mm_M yX12_readStop cX12_readStop 1 none d [va_rf a0] h (.inr none) hz := by
  refine mm_ofV (by decide +kernel) (by simp [lg_sl, mm_crf, mm_cti, mm_ctl]) (fun V C => ?_)
  rw [show lv_args 0 [va_rf a0] = [(0, va_rf a0)] by simp [lv_args, mm_crf, mm_cti, mm_ctl]]
  unfold F_X12_readStop at hK
  refine mm_aload_n C (pc := 0) 0 dX12_readStop_0 rfl ?_
  refine mm_bipush C (pc := 1) (v := (59 : Int32)) dX12_readStop_1 (by decide) ?_
  replace hK := mm_bd hK; obtain ⟨h3, e3, hK⟩ := hK
  obtain ⟨o3, e3⟩ := cV_some e3
  refine mm_callV C (pc := 3) (d1 := 3) (As := [.int (59 : Int32)]) (st := []) (vk := none) ((S_X12_mustSign (by omega)) e3) tT_X12_mustSign o3 (Or.inr ⟨_, rfl, rfl⟩) wd_2208 wd_2210 wd_70 (by omega) (by decide) rfl (by simp [mm_crf, mm_cti, mm_ctl]) rfl dX12_readStop_3 ?_
  show V _ _ [] _
  refine mm_aload_n C (pc := 6) 0 dX12_readStop_6 rfl ?_
  replace hK := mm_bd hK; obtain ⟨v7, e7, hK⟩ := hK
  refine mm_geti C (pc := 7) (k := 12) inGX12 rfl (by decide) wd_2011 dX12_readStop_7 e7 ?_
  refine mm_if_ne C (pc := 10) (tgt := 23) dX12_readStop_10 (by decide) (fun hc => ?_) (fun hc => ?_)
  · replace hK := mm_in hc hK
    refine mm_sub C [] rfl ?_
    exact w_X12_readStop_23 hd C _ hK
  · replace hK := mm_ip hc hK
    refine mm_aload_n C (pc := 13) 0 dX12_readStop_13 rfl ?_
    replace hK := mm_bd hK; obtain ⟨v14, e14, hK⟩ := hK
    refine mm_getr C (pc := 14) (k := 1) inGX12 rfl (by decide) wd_2000 dX12_readStop_14 e14 ?_
    refine mm_iconst C (pc := 17) (v := (0 : Int32)) dX12_readStop_17 (by decide) ?_
    refine mm_dup2 C (pc := 18) dX12_readStop_18 rfl mm_crf ?_
    replace hK := mm_bd hK; obtain ⟨v19, e19, hK⟩ := hK
    refine mm_iald C (pc := 19) dX12_readStop_19 e19 ?_
    refine mm_iconst C (pc := 20) (v := (1 : Int32)) dX12_readStop_20 (by decide) ?_
    refine mm_iadd C (pc := 21) dX12_readStop_21 ?_
    replace hK := mm_bd hK; obtain ⟨h22, e22, hK⟩ := hK
    refine mm_iast C (pc := 22) dX12_readStop_22 e22 ?_
    refine mm_sub C [] rfl ?_
    exact w_X12_readStop_23 hd C _ hK
theorem wd_2207 : Cond.code yX12_readStop cX12_readStop 1 none ∈ lw_good := mm_wd 2207 (by decide +kernel) (by decide +kernel)
theorem tT_X12_readStop : mm_T yX12_readStop cX12_readStop 1 none 0 := ⟨wd_2207, wd_170, by decide +kernel, by decide +kernel, by decide +kernel, by decide +kernel⟩
theorem wd_2204 : Cond.methodLink RX12 253 yX12_readStop ∈ lw_good := mm_wd 2204 (by decide +kernel) (by decide +kernel)
theorem wd_2206 : Cond.instanceMethod yX12_readStop ∈ lw_good := mm_wd 2206 (by decide +kernel) (by decide +kernel)
theorem wd_69 : Cond.selects RX12 yX12_readStop yX12_readStop ∈ lw_good := mm_wd 69 (by decide +kernel) (by decide +kernel)
theorem wd_2245 : Cond.code yX12_beginsLaw cX12_beginsLaw 3 none ∈ lw_good := mm_wd 2245 (by decide +kernel) (by decide +kernel)
theorem tT_X12_beginsLaw : mm_T yX12_beginsLaw cX12_beginsLaw 3 none 2 := ⟨wd_2245, wd_170, by decide +kernel, by decide +kernel, by decide +kernel, by decide +kernel⟩
theorem wd_2242 : Cond.methodLink RX12 247 yX12_beginsLaw ∈ lw_good := mm_wd 2242 (by decide +kernel) (by decide +kernel)
theorem wd_2244 : Cond.instanceMethod yX12_beginsLaw ∈ lw_good := mm_wd 2244 (by decide +kernel) (by decide +kernel)
theorem wd_76 : Cond.selects RX12 yX12_beginsLaw yX12_beginsLaw ∈ lw_good := mm_wd 76 (by decide +kernel) (by decide +kernel)
theorem wd_2233 : Cond.code yX12_readCall cX12_readCall 5 none ∈ lw_good := mm_wd 2233 (by decide +kernel) (by decide +kernel)
theorem tT_X12_readCall : mm_T yX12_readCall cX12_readCall 5 none 0 := ⟨wd_2233, wd_170, by decide +kernel, by decide +kernel, by decide +kernel, by decide +kernel⟩
theorem wd_2230 : Cond.methodLink RX12 242 yX12_readCall ∈ lw_good := mm_wd 2230 (by decide +kernel) (by decide +kernel)
theorem wd_2232 : Cond.instanceMethod yX12_readCall ∈ lw_good := mm_wd 2232 (by decide +kernel) (by decide +kernel)
theorem wd_75 : Cond.selects RX12 yX12_readCall yX12_readCall ∈ lw_good := mm_wd 75 (by decide +kernel) (by decide +kernel)
theorem wd_2220 : Cond.code yX12_readCord cX12_readCord 2 none ∈ lw_good := mm_wd 2220 (by decide +kernel) (by decide +kernel)
theorem tT_X12_readCord : mm_T yX12_readCord cX12_readCord 2 none 0 := ⟨wd_2220, wd_170, by decide +kernel, by decide +kernel, by decide +kernel, by decide +kernel⟩
theorem wd_2217 : Cond.methodLink RX12 239 yX12_readCord ∈ lw_good := mm_wd 2217 (by decide +kernel) (by decide +kernel)
theorem wd_2219 : Cond.instanceMethod yX12_readCord ∈ lw_good := mm_wd 2219 (by decide +kernel) (by decide +kernel)
theorem wd_72 : Cond.selects RX12 yX12_readCord yX12_readCord ∈ lw_good := mm_wd 72 (by decide +kernel) (by decide +kernel)
def F_X12_readLine_136 (l0 : Option Nat) (h : MH) : Option MH := (cV h l0 12 (F_X12_readStop l0 h)).bind fun h137 => some h137
set_option maxRecDepth 20000 in
set_option maxHeartbeats 4000000 in
theorem w_X12_readLine_136 {d : Nat} {V : Nat → List (Nat × Value) → List Value → MH → Prop} {hz : MH} (hd : 138 ≤ d) (C : mm_C d yX12_readLine cX12_readLine 1 none (.inr none) hz V) (l0 : Option Nat) (h : MH) (hK : F_X12_readLine_136 l0 h = some hz) : V 136 [(0, va_rf l0)] [] h := by
  unfold F_X12_readLine_136 at hK
  refine mm_aload_n C (pc := 136) 0 dX12_readLine_136 rfl ?_
  replace hK := mm_bd hK; obtain ⟨h137, e137, hK⟩ := hK
  obtain ⟨o137, e137⟩ := cV_some e137
  refine mm_callV C (pc := 137) (d1 := 4) (As := []) (st := []) (vk := none) ((S_X12_readStop (by omega)) e137) tT_X12_readStop o137 (Or.inr ⟨_, rfl, rfl⟩) wd_2204 wd_2206 wd_69 (by omega) (by decide) rfl (by simp [mm_crf, mm_cti, mm_ctl]) rfl dX12_readLine_137 ?_
  show V _ _ [] _
  cases hK
  exact mm_vret C (pc := 140) rfl dX12_readLine_140 rfl rfl
def F_X12_readLine (a0 : Option Nat) (h : MH) : Option MH := mm_b2 (cV h a0 12 (F_X12_isWord a0 (some 35 : Option Nat) h)) fun v3 h3 => if v3 = 0 then (mm_b2 (cV h3 a0 12 (F_X12_isWord a0 (some 36 : Option Nat) h3)) fun v19 h19 => if v19 = 0 then (mm_b2 (cV h19 a0 12 (F_X12_took a0 (some 40 : Option Nat) h19)) fun v35 h35 => if v35 = 0 then (mm_b2 (cV h35 a0 12 (F_X12_took a0 (some 41 : Option Nat) h35)) fun v62 h62 => if v62 = 0 then (mm_b2 (cV h62 a0 12 (F_X12_took a0 (some 45 : Option Nat) h62)) fun v86 h86 => if v86 = 0 then (mm_b2 (cV h86 a0 12 (F_X12_took a0 (some 47 : Option Nat) h86)) fun v110 h110 => if v110 = 0 then ((cV h110 a0 12 (F_X12_blames a0 (2 : Int32) h110)).bind fun h133 => F_X12_readLine_136 a0 h133) else ((cV h110 a0 12 (F_X12_beginsLaw a0 (5 : Int32) (2301 : Int32) h110)).bind fun h121 => (cV h121 a0 12 ((G_X12_readBoth 64).2.1 a0 h121)).bind fun h125 => F_X12_readLine_136 a0 h125)) else ((cV h86 a0 12 (F_X12_beginsLaw a0 (4 : Int32) (1401 : Int32) h86)).bind fun h97 => (cV h97 a0 12 ((G_X12_readAtom 64).2.1 a0 h97)).bind fun h101 => F_X12_readLine_136 a0 h101)) else ((cV h62 a0 12 (F_X12_beginsLaw a0 (3 : Int32) (501 : Int32) h62)).bind fun h73 => (cV h73 a0 12 ((G_X12_readAtom 64).2.1 a0 h73)).bind fun h77 => F_X12_readLine_136 a0 h77)) else ((gR h35 a0 12 1).bind fun v42 => mm_b2 (cV h35 a0 12 (F_X12_number a0 (0 : Int32) (999 : Int32) h35)) fun v52 h52 => (sI h52 v42 0 (47 : Int32) v52).bind fun h55 => F_X12_readLine_136 a0 h55)) else ((cV h19 a0 12 (F_X12_readCall a0 h19)).bind fun h26 => F_X12_readLine_136 a0 h26)) else ((cV h3 a0 12 (F_X12_readCord a0 h3)).bind fun h10 => F_X12_readLine_136 a0 h10)
set_option maxRecDepth 20000 in
set_option maxHeartbeats 4000000 in
theorem S_X12_readLine {d : Nat} (hd : 138 ≤ d) {a0 : Option Nat} {h : MH} {hz : MH} (hK : F_X12_readLine a0 h = some hz) : mm_M yX12_readLine cX12_readLine 1 none d [va_rf a0] h (.inr none) hz := by
  refine mm_ofV (by decide +kernel) (by simp [lg_sl, mm_crf, mm_cti, mm_ctl]) (fun V C => ?_)
  rw [show lv_args 0 [va_rf a0] = [(0, va_rf a0)] by simp [lv_args, mm_crf, mm_cti, mm_ctl]]
  unfold F_X12_readLine at hK
  refine mm_aload_n C (pc := 0) 0 dX12_readLine_0 rfl ?_
  refine mm_ldcS C (pc := 1) (i := 35) (by decide) (by rfl) dX12_readLine_1 ?_
  replace hK := mm_b2s hK; obtain ⟨v3, h3, e3, hK⟩ := hK
  obtain ⟨o3, e3⟩ := cV_some e3
  refine mm_callV C (pc := 3) (d1 := 5) (As := [va_rf (some 35 : Option Nat)]) (st := []) (vk := (some (.int v3))) ((S_X12_isWord (by omega)) e3) tT_X12_isWord o3 (Or.inr ⟨_, rfl, rfl⟩) wd_2190 wd_2192 wd_66 (by omega) (by decide) rfl (by simp [mm_crf, mm_cti, mm_ctl]) rfl dX12_readLine_3 ?_
  show V _ _ (.int v3 :: _) _
  refine mm_if_eq C (pc := 6) (tgt := 16) dX12_readLine_6 (by decide) (fun hc => ?_) (fun hc => ?_)
  · replace hK := mm_ip hc hK
    refine mm_aload_n C (pc := 16) 0 dX12_readLine_16 rfl ?_
    refine mm_ldcS C (pc := 17) (i := 36) (by decide) (by rfl) dX12_readLine_17 ?_
    replace hK := mm_b2s hK; obtain ⟨v19, h19, e19, hK⟩ := hK
    obtain ⟨o19, e19⟩ := cV_some e19
    refine mm_callV C (pc := 19) (d1 := 5) (As := [va_rf (some 36 : Option Nat)]) (st := []) (vk := (some (.int v19))) ((S_X12_isWord (by omega)) e19) tT_X12_isWord o19 (Or.inr ⟨_, rfl, rfl⟩) wd_2190 wd_2192 wd_66 (by omega) (by decide) rfl (by simp [mm_crf, mm_cti, mm_ctl]) rfl dX12_readLine_19 ?_
    show V _ _ (.int v19 :: _) _
    refine mm_if_eq C (pc := 22) (tgt := 32) dX12_readLine_22 (by decide) (fun hc => ?_) (fun hc => ?_)
    · replace hK := mm_ip hc hK
      refine mm_aload_n C (pc := 32) 0 dX12_readLine_32 rfl ?_
      refine mm_ldcS C (pc := 33) (i := 40) (by decide) (by rfl) dX12_readLine_33 ?_
      replace hK := mm_b2s hK; obtain ⟨v35, h35, e35, hK⟩ := hK
      obtain ⟨o35, e35⟩ := cV_some e35
      refine mm_callV C (pc := 35) (d1 := 6) (As := [va_rf (some 40 : Option Nat)]) (st := []) (vk := (some (.int v35))) ((S_X12_took (by omega)) e35) tT_X12_took o35 (Or.inr ⟨_, rfl, rfl⟩) wd_2186 wd_2188 wd_65 (by omega) (by decide) rfl (by simp [mm_crf, mm_cti, mm_ctl]) rfl dX12_readLine_35 ?_
      show V _ _ (.int v35 :: _) _
      refine mm_if_eq C (pc := 38) (tgt := 59) dX12_readLine_38 (by decide) (fun hc => ?_) (fun hc => ?_)
      · replace hK := mm_ip hc hK
        refine mm_aload_n C (pc := 59) 0 dX12_readLine_59 rfl ?_
        refine mm_ldcS C (pc := 60) (i := 41) (by decide) (by rfl) dX12_readLine_60 ?_
        replace hK := mm_b2s hK; obtain ⟨v62, h62, e62, hK⟩ := hK
        obtain ⟨o62, e62⟩ := cV_some e62
        refine mm_callV C (pc := 62) (d1 := 6) (As := [va_rf (some 41 : Option Nat)]) (st := []) (vk := (some (.int v62))) ((S_X12_took (by omega)) e62) tT_X12_took o62 (Or.inr ⟨_, rfl, rfl⟩) wd_2186 wd_2188 wd_65 (by omega) (by decide) rfl (by simp [mm_crf, mm_cti, mm_ctl]) rfl dX12_readLine_62 ?_
        show V _ _ (.int v62 :: _) _
        refine mm_if_eq C (pc := 65) (tgt := 83) dX12_readLine_65 (by decide) (fun hc => ?_) (fun hc => ?_)
        · replace hK := mm_ip hc hK
          refine mm_aload_n C (pc := 83) 0 dX12_readLine_83 rfl ?_
          refine mm_ldcS C (pc := 84) (i := 45) (by decide) (by rfl) dX12_readLine_84 ?_
          replace hK := mm_b2s hK; obtain ⟨v86, h86, e86, hK⟩ := hK
          obtain ⟨o86, e86⟩ := cV_some e86
          refine mm_callV C (pc := 86) (d1 := 6) (As := [va_rf (some 45 : Option Nat)]) (st := []) (vk := (some (.int v86))) ((S_X12_took (by omega)) e86) tT_X12_took o86 (Or.inr ⟨_, rfl, rfl⟩) wd_2186 wd_2188 wd_65 (by omega) (by decide) rfl (by simp [mm_crf, mm_cti, mm_ctl]) rfl dX12_readLine_86 ?_
          show V _ _ (.int v86 :: _) _
          refine mm_if_eq C (pc := 89) (tgt := 107) dX12_readLine_89 (by decide) (fun hc => ?_) (fun hc => ?_)
          · replace hK := mm_ip hc hK
            refine mm_aload_n C (pc := 107) 0 dX12_readLine_107 rfl ?_
            refine mm_ldcS C (pc := 108) (i := 47) (by decide) (by rfl) dX12_readLine_108 ?_
            replace hK := mm_b2s hK; obtain ⟨v110, h110, e110, hK⟩ := hK
            obtain ⟨o110, e110⟩ := cV_some e110
            refine mm_callV C (pc := 110) (d1 := 6) (As := [va_rf (some 47 : Option Nat)]) (st := []) (vk := (some (.int v110))) ((S_X12_took (by omega)) e110) tT_X12_took o110 (Or.inr ⟨_, rfl, rfl⟩) wd_2186 wd_2188 wd_65 (by omega) (by decide) rfl (by simp [mm_crf, mm_cti, mm_ctl]) rfl dX12_readLine_110 ?_
            show V _ _ (.int v110 :: _) _
            refine mm_if_eq C (pc := 113) (tgt := 131) dX12_readLine_113 (by decide) (fun hc => ?_) (fun hc => ?_)
            · replace hK := mm_ip hc hK
              refine mm_aload_n C (pc := 131) 0 dX12_readLine_131 rfl ?_
              refine mm_iconst C (pc := 132) (v := (2 : Int32)) dX12_readLine_132 (by decide) ?_
              replace hK := mm_bd hK; obtain ⟨h133, e133, hK⟩ := hK
              obtain ⟨o133, e133⟩ := cV_some e133
              refine mm_callV C (pc := 133) (d1 := 1) (As := [.int (2 : Int32)]) (st := []) (vk := none) ((S_X12_blames (by omega)) e133) tT_X12_blames o133 (Or.inr ⟨_, rfl, rfl⟩) wd_2196 wd_2198 wd_67 (by omega) (by decide) rfl (by simp [mm_crf, mm_cti, mm_ctl]) rfl dX12_readLine_133 ?_
              show V _ _ [] _
              exact w_X12_readLine_136 hd C _ _ hK
            · replace hK := mm_in hc hK
              refine mm_aload_n C (pc := 116) 0 dX12_readLine_116 rfl ?_
              refine mm_iconst C (pc := 117) (v := (5 : Int32)) dX12_readLine_117 (by decide) ?_
              refine mm_sipush C (pc := 118) (v := (2301 : Int32)) dX12_readLine_118 (by decide) ?_
              replace hK := mm_bd hK; obtain ⟨h121, e121, hK⟩ := hK
              obtain ⟨o121, e121⟩ := cV_some e121
              refine mm_callV C (pc := 121) (d1 := 4) (As := [.int (5 : Int32), .int (2301 : Int32)]) (st := []) (vk := none) ((S_X12_beginsLaw (by omega)) e121) tT_X12_beginsLaw o121 (Or.inr ⟨_, rfl, rfl⟩) wd_2242 wd_2244 wd_76 (by omega) (by decide) rfl (by simp [mm_crf, mm_cti, mm_ctl]) rfl dX12_readLine_121 ?_
              show V _ _ [] _
              refine mm_aload_n C (pc := 124) 0 dX12_readLine_124 rfl ?_
              replace hK := mm_bd hK; obtain ⟨h125, e125, hK⟩ := hK
              obtain ⟨o125, e125⟩ := cV_some e125
              refine mm_callV C (pc := 125) (d1 := 137) (As := []) (st := []) (vk := none) (((S_G_X12_readBoth 64).2.1 _ (by omega)) e125) tT_X12_readTruth o125 (Or.inr ⟨_, rfl, rfl⟩) wd_2280 wd_2282 wd_84 (by omega) (by decide) rfl (by simp [mm_crf, mm_cti, mm_ctl]) rfl dX12_readLine_125 ?_
              show V _ _ [] _
              refine mm_goto C (pc := 128) (tgt := 136) dX12_readLine_128 (by decide) ?_
              exact w_X12_readLine_136 hd C _ _ hK
          · replace hK := mm_in hc hK
            refine mm_aload_n C (pc := 92) 0 dX12_readLine_92 rfl ?_
            refine mm_iconst C (pc := 93) (v := (4 : Int32)) dX12_readLine_93 (by decide) ?_
            refine mm_sipush C (pc := 94) (v := (1401 : Int32)) dX12_readLine_94 (by decide) ?_
            replace hK := mm_bd hK; obtain ⟨h97, e97, hK⟩ := hK
            obtain ⟨o97, e97⟩ := cV_some e97
            refine mm_callV C (pc := 97) (d1 := 4) (As := [.int (4 : Int32), .int (1401 : Int32)]) (st := []) (vk := none) ((S_X12_beginsLaw (by omega)) e97) tT_X12_beginsLaw o97 (Or.inr ⟨_, rfl, rfl⟩) wd_2242 wd_2244 wd_76 (by omega) (by decide) rfl (by simp [mm_crf, mm_cti, mm_ctl]) rfl dX12_readLine_97 ?_
            show V _ _ [] _
            refine mm_aload_n C (pc := 100) 0 dX12_readLine_100 rfl ?_
            replace hK := mm_bd hK; obtain ⟨h101, e101, hK⟩ := hK
            obtain ⟨o101, e101⟩ := cV_some e101
            refine mm_callV C (pc := 101) (d1 := 72) (As := []) (st := []) (vk := none) (((S_G_X12_readAtom 64).2.1 _ (by omega)) e101) tT_X12_readSum o101 (Or.inr ⟨_, rfl, rfl⟩) wd_2246 wd_2248 wd_77 (by omega) (by decide) rfl (by simp [mm_crf, mm_cti, mm_ctl]) rfl dX12_readLine_101 ?_
            show V _ _ [] _
            refine mm_goto C (pc := 104) (tgt := 136) dX12_readLine_104 (by decide) ?_
            exact w_X12_readLine_136 hd C _ _ hK
        · replace hK := mm_in hc hK
          refine mm_aload_n C (pc := 68) 0 dX12_readLine_68 rfl ?_
          refine mm_iconst C (pc := 69) (v := (3 : Int32)) dX12_readLine_69 (by decide) ?_
          refine mm_sipush C (pc := 70) (v := (501 : Int32)) dX12_readLine_70 (by decide) ?_
          replace hK := mm_bd hK; obtain ⟨h73, e73, hK⟩ := hK
          obtain ⟨o73, e73⟩ := cV_some e73
          refine mm_callV C (pc := 73) (d1 := 4) (As := [.int (3 : Int32), .int (501 : Int32)]) (st := []) (vk := none) ((S_X12_beginsLaw (by omega)) e73) tT_X12_beginsLaw o73 (Or.inr ⟨_, rfl, rfl⟩) wd_2242 wd_2244 wd_76 (by omega) (by decide) rfl (by simp [mm_crf, mm_cti, mm_ctl]) rfl dX12_readLine_73 ?_
          show V _ _ [] _
          refine mm_aload_n C (pc := 76) 0 dX12_readLine_76 rfl ?_
          replace hK := mm_bd hK; obtain ⟨h77, e77, hK⟩ := hK
          obtain ⟨o77, e77⟩ := cV_some e77
          refine mm_callV C (pc := 77) (d1 := 72) (As := []) (st := []) (vk := none) (((S_G_X12_readAtom 64).2.1 _ (by omega)) e77) tT_X12_readSum o77 (Or.inr ⟨_, rfl, rfl⟩) wd_2246 wd_2248 wd_77 (by omega) (by decide) rfl (by simp [mm_crf, mm_cti, mm_ctl]) rfl dX12_readLine_77 ?_
          show V _ _ [] _
          refine mm_goto C (pc := 80) (tgt := 136) dX12_readLine_80 (by decide) ?_
          exact w_X12_readLine_136 hd C _ _ hK
      · replace hK := mm_in hc hK
        refine mm_aload_n C (pc := 41) 0 dX12_readLine_41 rfl ?_
        replace hK := mm_bd hK; obtain ⟨v42, e42, hK⟩ := hK
        refine mm_getr C (pc := 42) (k := 1) inGX12 rfl (by decide) wd_2000 dX12_readLine_42 e42 ?_
        refine mm_bipush C (pc := 45) (v := (47 : Int32)) dX12_readLine_45 (by decide) ?_
        refine mm_aload_n C (pc := 47) 0 dX12_readLine_47 rfl ?_
        refine mm_iconst C (pc := 48) (v := (0 : Int32)) dX12_readLine_48 (by decide) ?_
        refine mm_sipush C (pc := 49) (v := (999 : Int32)) dX12_readLine_49 (by decide) ?_
        replace hK := mm_b2s hK; obtain ⟨v52, h52, e52, hK⟩ := hK
        obtain ⟨o52, e52⟩ := cV_some e52
        refine mm_callV C (pc := 52) (d1 := 3) (As := [.int (0 : Int32), .int (999 : Int32)]) (st := [.int (47 : Int32), va_rf v42]) (vk := (some (.int v52))) ((S_X12_number (by omega)) e52) tT_X12_number o52 (Or.inr ⟨_, rfl, rfl⟩) wd_2200 wd_2202 wd_68 (by omega) (by decide) rfl (by simp [mm_crf, mm_cti, mm_ctl]) rfl dX12_readLine_52 ?_
        show V _ _ (.int v52 :: _) _
        replace hK := mm_bd hK; obtain ⟨h55, e55, hK⟩ := hK
        refine mm_iast C (pc := 55) dX12_readLine_55 e55 ?_
        refine mm_goto C (pc := 56) (tgt := 136) dX12_readLine_56 (by decide) ?_
        exact w_X12_readLine_136 hd C _ _ hK
    · replace hK := mm_in hc hK
      refine mm_aload_n C (pc := 25) 0 dX12_readLine_25 rfl ?_
      replace hK := mm_bd hK; obtain ⟨h26, e26, hK⟩ := hK
      obtain ⟨o26, e26⟩ := cV_some e26
      refine mm_callV C (pc := 26) (d1 := 8) (As := []) (st := []) (vk := none) ((S_X12_readCall (by omega)) e26) tT_X12_readCall o26 (Or.inr ⟨_, rfl, rfl⟩) wd_2230 wd_2232 wd_75 (by omega) (by decide) rfl (by simp [mm_crf, mm_cti, mm_ctl]) rfl dX12_readLine_26 ?_
      show V _ _ [] _
      refine mm_goto C (pc := 29) (tgt := 136) dX12_readLine_29 (by decide) ?_
      exact w_X12_readLine_136 hd C _ _ hK
  · replace hK := mm_in hc hK
    refine mm_aload_n C (pc := 9) 0 dX12_readLine_9 rfl ?_
    replace hK := mm_bd hK; obtain ⟨h10, e10, hK⟩ := hK
    obtain ⟨o10, e10⟩ := cV_some e10
    refine mm_callV C (pc := 10) (d1 := 5) (As := []) (st := []) (vk := none) ((S_X12_readCord (by omega)) e10) tT_X12_readCord o10 (Or.inr ⟨_, rfl, rfl⟩) wd_2217 wd_2219 wd_72 (by omega) (by decide) rfl (by simp [mm_crf, mm_cti, mm_ctl]) rfl dX12_readLine_10 ?_
    show V _ _ [] _
    refine mm_goto C (pc := 13) (tgt := 136) dX12_readLine_13 (by decide) ?_
    exact w_X12_readLine_136 hd C _ _ hK
def F_X12_calls (a0 : Option Nat) (h : MH) : Option (Int32 × MH) := (gR h a0 12 0).bind fun v1 => (aI h v1 0 (7 : Int32)).bind fun v6 => some (v6, h)
set_option maxRecDepth 20000 in
set_option maxHeartbeats 4000000 in
theorem S_X12_calls {d : Nat} (hd : 1 ≤ d) {a0 : Option Nat} {h : MH} {r : Int32} {hz : MH} (hK : F_X12_calls a0 h = some (r, hz)) : mm_M yX12_calls cX12_calls 1 (some .int) d [va_rf a0] h (.inr (some (.int r))) hz := by
  refine mm_ofV (by decide +kernel) (by simp [lg_sl, mm_crf, mm_cti, mm_ctl]) (fun V C => ?_)
  rw [show lv_args 0 [va_rf a0] = [(0, va_rf a0)] by simp [lv_args, mm_crf, mm_cti, mm_ctl]]
  unfold F_X12_calls at hK
  refine mm_aload_n C (pc := 0) 0 dX12_calls_0 rfl ?_
  replace hK := mm_bd hK; obtain ⟨v1, e1, hK⟩ := hK
  refine mm_getr C (pc := 1) (k := 0) inGX12 rfl (by decide) wd_1999 dX12_calls_1 e1 ?_
  refine mm_bipush C (pc := 4) (v := (7 : Int32)) dX12_calls_4 (by decide) ?_
  replace hK := mm_bd hK; obtain ⟨v6, e6, hK⟩ := hK
  refine mm_iald C (pc := 6) dX12_calls_6 e6 ?_
  cases hK
  exact mm_iret C (pc := 7) rfl dX12_calls_7 rfl rfl
theorem wd_2013 : Cond.fieldLink RX12 264 "CrossedLinesModel" "faultKind" "I" ∈ lw_good := mm_wd 2013 (by decide +kernel) (by decide +kernel)
theorem wd_2298 : Cond.code yX12_calls cX12_calls 1 (some .int) ∈ lw_good := mm_wd 2298 (by decide +kernel) (by decide +kernel)
theorem tT_X12_calls : mm_T yX12_calls cX12_calls 1 (some .int) 0 := ⟨wd_2298, wd_170, by decide +kernel, by decide +kernel, by decide +kernel, by decide +kernel⟩
theorem wd_2295 : Cond.methodLink RX12 267 yX12_calls ∈ lw_good := mm_wd 2295 (by decide +kernel) (by decide +kernel)
theorem wd_2297 : Cond.instanceMethod yX12_calls ∈ lw_good := mm_wd 2297 (by decide +kernel) (by decide +kernel)
theorem wd_87 : Cond.selects RX12 yX12_calls yX12_calls ∈ lw_good := mm_wd 87 (by decide +kernel) (by decide +kernel)
theorem wd_2215 : Cond.code yX12_readLine cX12_readLine 1 none ∈ lw_good := mm_wd 2215 (by decide +kernel) (by decide +kernel)
theorem tT_X12_readLine : mm_T yX12_readLine cX12_readLine 1 none 0 := ⟨wd_2215, wd_170, by decide +kernel, by decide +kernel, by decide +kernel, by decide +kernel⟩
theorem wd_2212 : Cond.methodLink RX12 261 yX12_readLine ∈ lw_good := mm_wd 2212 (by decide +kernel) (by decide +kernel)
theorem wd_2214 : Cond.instanceMethod yX12_readLine ∈ lw_good := mm_wd 2214 (by decide +kernel) (by decide +kernel)
theorem wd_71 : Cond.selects RX12 yX12_readLine yX12_readLine ∈ lw_good := mm_wd 71 (by decide +kernel) (by decide +kernel)
theorem wd_2163 : Cond.code yX12_fails cX12_fails 2 (some .int) ∈ lw_good := mm_wd 2163 (by decide +kernel) (by decide +kernel)
theorem tT_X12_fails : mm_T yX12_fails cX12_fails 2 (some .int) 1 := ⟨wd_2163, wd_170, by decide +kernel, by decide +kernel, by decide +kernel, by decide +kernel⟩
theorem wd_2160 : Cond.methodLink RX12 256 yX12_fails ∈ lw_good := mm_wd 2160 (by decide +kernel) (by decide +kernel)
theorem wd_2162 : Cond.instanceMethod yX12_fails ∈ lw_good := mm_wd 2162 (by decide +kernel) (by decide +kernel)
theorem wd_61 : Cond.selects RX12 yX12_fails yX12_fails ∈ lw_good := mm_wd 61 (by decide +kernel) (by decide +kernel)
def F_X12_exchange_253 (k216 : Option Nat → Int32 → MH → Option (Int32 × MH)) (l0 : Option Nat) (l2 : Int32) (h : MH) : Option (Int32 × MH) := k216 l0 (l2 + (1 : Int32)) h
set_option maxRecDepth 20000 in
set_option maxHeartbeats 4000000 in
theorem w_X12_exchange_253 {d : Nat} {V : Nat → List (Nat × Value) → List Value → MH → Prop} {r : Int32} {hz : MH} {k216 : Option Nat → Int32 → MH → Option (Int32 × MH)} (hd : 139 ≤ d) (C : mm_C d yX12_exchange cX12_exchange 3 (some .int) (.inr (some (.int r))) hz V) (q216 : ∀ (x0 : Option Nat) (x1 : Int32) (h : MH), k216 x0 x1 h = some (r, hz) → V 216 [(0, va_rf x0), (2, .int x1)] [] h) (l0 : Option Nat) (l2 : Int32) (h : MH) (hK : F_X12_exchange_253 k216 l0 l2 h = some (r, hz)) : V 253 [(0, va_rf l0), (2, .int l2)] [] h := by
  unfold F_X12_exchange_253 at hK
  refine mm_iinc C (pc := 253) (v := (l2 + (1 : Int32))) (lv' := [(2, .int (l2 + (1 : Int32))), (0, va_rf l0)]) 1 dX12_exchange_253 rfl rfl (by decide) rfl ?_
  refine mm_goto C (pc := 256) (tgt := 216) dX12_exchange_256 (by decide) ?_
  refine mm_sub C [1, 0] rfl ?_
  exact q216 _ _ _ hK
def F_X12_exchange_216 : Nat → Option Nat → Int32 → MH → Option (Int32 × MH)
  | 0 => fun _ _ _ => none
  | n + 1 => fun l0 l2 h => mm_b2 (cV h l0 12 (F_X12_calls l0 h)) fun v218 h218 => if v218 ≤ l2 then ((gR h218 l0 12 0).bind fun v260 => (aI h218 v260 0 (0 : Int32)).bind fun v264 => some (v264, h218)) else ((gR h218 l0 12 0).bind fun v225 => (aI h218 v225 0 ((71 : Int32) + l2)).bind fun v232 => (gR h218 l0 12 0).bind fun v234 => (aI h218 v234 0 (47 : Int32)).bind fun v239 => if v239 ≤ v232 then (F_X12_exchange_253 (F_X12_exchange_216 n) l0 l2 h218) else ((gR h218 l0 12 0).bind fun v244 => (sI h218 v244 0 ((8 : Int32) + l2) (3 : Int32)).bind fun h252 => F_X12_exchange_253 (F_X12_exchange_216 n) l0 l2 h252))
set_option maxRecDepth 20000 in
set_option maxHeartbeats 4000000 in
theorem w_X12_exchange_216 {d : Nat} {V : Nat → List (Nat × Value) → List Value → MH → Prop} {r : Int32} {hz : MH} (hd : 139 ≤ d) (C : mm_C d yX12_exchange cX12_exchange 3 (some .int) (.inr (some (.int r))) hz V) : ∀ (n : Nat) (l0 : Option Nat) (l2 : Int32) (h : MH), F_X12_exchange_216 n l0 l2 h = some (r, hz) → V 216 [(0, va_rf l0), (2, .int l2)] [] h := by
  intro n
  induction n with
  | zero => intro l0 l2 h hK; cases hK
  | succ n ih =>
    intro l0 l2 h hK
    replace hK : (mm_b2 (cV h l0 12 (F_X12_calls l0 h)) fun v218 h218 => if v218 ≤ l2 then ((gR h218 l0 12 0).bind fun v260 => (aI h218 v260 0 (0 : Int32)).bind fun v264 => some (v264, h218)) else ((gR h218 l0 12 0).bind fun v225 => (aI h218 v225 0 ((71 : Int32) + l2)).bind fun v232 => (gR h218 l0 12 0).bind fun v234 => (aI h218 v234 0 (47 : Int32)).bind fun v239 => if v239 ≤ v232 then (F_X12_exchange_253 (F_X12_exchange_216 n) l0 l2 h218) else ((gR h218 l0 12 0).bind fun v244 => (sI h218 v244 0 ((8 : Int32) + l2) (3 : Int32)).bind fun h252 => F_X12_exchange_253 (F_X12_exchange_216 n) l0 l2 h252))) = some (r, hz) := hK
    refine mm_iload_n C (pc := 216) 1 dX12_exchange_216 rfl ?_
    refine mm_aload_n C (pc := 217) 0 dX12_exchange_217 rfl ?_
    replace hK := mm_b2s hK; obtain ⟨v218, h218, e218, hK⟩ := hK
    obtain ⟨o218, e218⟩ := cV_some e218
    refine mm_callV C (pc := 218) (d1 := 1) (As := []) (st := [.int l2]) (vk := (some (.int v218))) ((S_X12_calls (by omega)) e218) tT_X12_calls o218 (Or.inr ⟨_, rfl, rfl⟩) wd_2295 wd_2297 wd_87 (by omega) (by decide) rfl (by simp [mm_crf, mm_cti, mm_ctl]) rfl dX12_exchange_218 ?_
    show V _ _ (.int v218 :: _) _
    refine mm_icmp_ge C (pc := 221) (tgt := 259) dX12_exchange_221 (by decide) (fun hc => ?_) (fun hc => ?_)
    · replace hK := mm_ip hc hK
      refine mm_aload_n C (pc := 259) 0 dX12_exchange_259 rfl ?_
      replace hK := mm_bd hK; obtain ⟨v260, e260, hK⟩ := hK
      refine mm_getr C (pc := 260) (k := 0) inGX12 rfl (by decide) wd_1999 dX12_exchange_260 e260 ?_
      refine mm_iconst C (pc := 263) (v := (0 : Int32)) dX12_exchange_263 (by decide) ?_
      replace hK := mm_bd hK; obtain ⟨v264, e264, hK⟩ := hK
      refine mm_iald C (pc := 264) dX12_exchange_264 e264 ?_
      cases hK
      exact mm_iret C (pc := 265) rfl dX12_exchange_265 rfl rfl
    · replace hK := mm_in hc hK
      refine mm_aload_n C (pc := 224) 0 dX12_exchange_224 rfl ?_
      replace hK := mm_bd hK; obtain ⟨v225, e225, hK⟩ := hK
      refine mm_getr C (pc := 225) (k := 0) inGX12 rfl (by decide) wd_1999 dX12_exchange_225 e225 ?_
      refine mm_bipush C (pc := 228) (v := (71 : Int32)) dX12_exchange_228 (by decide) ?_
      refine mm_iload_n C (pc := 230) 1 dX12_exchange_230 rfl ?_
      refine mm_iadd C (pc := 231) dX12_exchange_231 ?_
      replace hK := mm_bd hK; obtain ⟨v232, e232, hK⟩ := hK
      refine mm_iald C (pc := 232) dX12_exchange_232 e232 ?_
      refine mm_aload_n C (pc := 233) 0 dX12_exchange_233 rfl ?_
      replace hK := mm_bd hK; obtain ⟨v234, e234, hK⟩ := hK
      refine mm_getr C (pc := 234) (k := 0) inGX12 rfl (by decide) wd_1999 dX12_exchange_234 e234 ?_
      refine mm_bipush C (pc := 237) (v := (47 : Int32)) dX12_exchange_237 (by decide) ?_
      replace hK := mm_bd hK; obtain ⟨v239, e239, hK⟩ := hK
      refine mm_iald C (pc := 239) dX12_exchange_239 e239 ?_
      refine mm_icmp_ge C (pc := 240) (tgt := 253) dX12_exchange_240 (by decide) (fun hc => ?_) (fun hc => ?_)
      · replace hK := mm_ip hc hK
        exact w_X12_exchange_253 hd C (fun z0 z1 z2 hK => ih z0 z1 z2 hK) _ _ _ hK
      · replace hK := mm_in hc hK
        refine mm_aload_n C (pc := 243) 0 dX12_exchange_243 rfl ?_
        replace hK := mm_bd hK; obtain ⟨v244, e244, hK⟩ := hK
        refine mm_getr C (pc := 244) (k := 0) inGX12 rfl (by decide) wd_1999 dX12_exchange_244 e244 ?_
        refine mm_bipush C (pc := 247) (v := (8 : Int32)) dX12_exchange_247 (by decide) ?_
        refine mm_iload_n C (pc := 249) 1 dX12_exchange_249 rfl ?_
        refine mm_iadd C (pc := 250) dX12_exchange_250 ?_
        refine mm_iconst C (pc := 251) (v := (3 : Int32)) dX12_exchange_251 (by decide) ?_
        replace hK := mm_bd hK; obtain ⟨h252, e252, hK⟩ := hK
        refine mm_iast C (pc := 252) dX12_exchange_252 e252 ?_
        exact w_X12_exchange_253 hd C (fun z0 z1 z2 hK => ih z0 z1 z2 hK) _ _ _ hK
def F_X12_exchange_189 : Nat → Option Nat → Int32 → MH → Option (Int32 × MH)
  | 0 => fun _ _ _ => none
  | n + 1 => fun l0 l2 h => if (3205 : Int32) ≤ l2 then (F_X12_exchange_216 mm_N l0 (0 : Int32) h) else ((gR h l0 12 0).bind fun v197 => (gR h l0 12 1).bind fun v202 => (aI h v202 0 l2).bind fun v206 => (sI h v197 0 l2 v206).bind fun h207 => F_X12_exchange_189 n l0 (l2 + (1 : Int32)) h207)
set_option maxRecDepth 20000 in
set_option maxHeartbeats 4000000 in
theorem w_X12_exchange_189 {d : Nat} {V : Nat → List (Nat × Value) → List Value → MH → Prop} {r : Int32} {hz : MH} (hd : 139 ≤ d) (C : mm_C d yX12_exchange cX12_exchange 3 (some .int) (.inr (some (.int r))) hz V) : ∀ (n : Nat) (l0 : Option Nat) (l2 : Int32) (h : MH), F_X12_exchange_189 n l0 l2 h = some (r, hz) → V 189 [(0, va_rf l0), (2, .int l2)] [] h := by
  intro n
  induction n with
  | zero => intro l0 l2 h hK; cases hK
  | succ n ih =>
    intro l0 l2 h hK
    replace hK : (if (3205 : Int32) ≤ l2 then (F_X12_exchange_216 mm_N l0 (0 : Int32) h) else ((gR h l0 12 0).bind fun v197 => (gR h l0 12 1).bind fun v202 => (aI h v202 0 l2).bind fun v206 => (sI h v197 0 l2 v206).bind fun h207 => F_X12_exchange_189 n l0 (l2 + (1 : Int32)) h207)) = some (r, hz) := hK
    refine mm_iload_n C (pc := 189) 1 dX12_exchange_189 rfl ?_
    refine mm_sipush C (pc := 190) (v := (3205 : Int32)) dX12_exchange_190 (by decide) ?_
    refine mm_icmp_ge C (pc := 193) (tgt := 214) dX12_exchange_193 (by decide) (fun hc => ?_) (fun hc => ?_)
    · replace hK := mm_ip hc hK
      refine mm_iconst C (pc := 214) (v := (0 : Int32)) dX12_exchange_214 (by decide) ?_
      refine mm_istore_n C (pc := 215) (i := 2) (lv' := [(2, .int (0 : Int32)), (0, va_rf l0)]) dX12_exchange_215 rfl (by decide) rfl ?_
      refine mm_sub C [1, 0] rfl ?_
      exact w_X12_exchange_216 hd C _ _ _ _ hK
    · replace hK := mm_in hc hK
      refine mm_aload_n C (pc := 196) 0 dX12_exchange_196 rfl ?_
      replace hK := mm_bd hK; obtain ⟨v197, e197, hK⟩ := hK
      refine mm_getr C (pc := 197) (k := 0) inGX12 rfl (by decide) wd_1999 dX12_exchange_197 e197 ?_
      refine mm_iload_n C (pc := 200) 1 dX12_exchange_200 rfl ?_
      refine mm_aload_n C (pc := 201) 0 dX12_exchange_201 rfl ?_
      replace hK := mm_bd hK; obtain ⟨v202, e202, hK⟩ := hK
      refine mm_getr C (pc := 202) (k := 1) inGX12 rfl (by decide) wd_2000 dX12_exchange_202 e202 ?_
      refine mm_iload_n C (pc := 205) 1 dX12_exchange_205 rfl ?_
      replace hK := mm_bd hK; obtain ⟨v206, e206, hK⟩ := hK
      refine mm_iald C (pc := 206) dX12_exchange_206 e206 ?_
      replace hK := mm_bd hK; obtain ⟨h207, e207, hK⟩ := hK
      refine mm_iast C (pc := 207) dX12_exchange_207 e207 ?_
      refine mm_iinc C (pc := 208) (v := (l2 + (1 : Int32))) (lv' := [(2, .int (l2 + (1 : Int32))), (0, va_rf l0)]) 1 dX12_exchange_208 rfl rfl (by decide) rfl ?_
      refine mm_goto C (pc := 211) (tgt := 189) dX12_exchange_211 (by decide) ?_
      refine mm_sub C [1, 0] rfl ?_
      exact ih _ _ _ hK
def F_X12_exchange_169 (l0 : Option Nat) (s0 : Int32) (s1 : Option Nat) (h : MH) : Option (Int32 × MH) := (pI h s1 12 15 s0).bind fun h169 => (gI h169 l0 12 12).bind fun v173 => if v173 = 0 then (F_X12_exchange_189 mm_N l0 (0 : Int32) h169) else ((gI h169 l0 12 12).bind fun v182 => some ((((-10) : Int32) - v182), h169))
set_option maxRecDepth 20000 in
set_option maxHeartbeats 4000000 in
theorem w_X12_exchange_169 {d : Nat} {V : Nat → List (Nat × Value) → List Value → MH → Prop} {r : Int32} {hz : MH} (hd : 139 ≤ d) (C : mm_C d yX12_exchange cX12_exchange 3 (some .int) (.inr (some (.int r))) hz V) (l0 : Option Nat) (s0 : Int32) (s1 : Option Nat) (h : MH) (hK : F_X12_exchange_169 l0 s0 s1 h = some (r, hz)) : V 169 [(0, va_rf l0)] [.int s0, va_rf s1] h := by
  unfold F_X12_exchange_169 at hK
  replace hK := mm_bd hK; obtain ⟨h169, e169, hK⟩ := hK
  refine mm_puti C (pc := 169) (k := 15) false (fun z => by cases z) inGX12 tyX12 tyX12_ok nmX12 rfl (by decide) wd_2014 rfl rfl dX12_exchange_169 e169 ?_
  refine mm_aload_n C (pc := 172) 0 dX12_exchange_172 rfl ?_
  replace hK := mm_bd hK; obtain ⟨v173, e173, hK⟩ := hK
  refine mm_geti C (pc := 173) (k := 12) inGX12 rfl (by decide) wd_2011 dX12_exchange_173 e173 ?_
  refine mm_if_eq C (pc := 176) (tgt := 187) dX12_exchange_176 (by decide) (fun hc => ?_) (fun hc => ?_)
  · replace hK := mm_ip hc hK
    refine mm_iconst C (pc := 187) (v := (0 : Int32)) dX12_exchange_187 (by decide) ?_
    refine mm_istore_n C (pc := 188) (i := 2) (lv' := [(2, .int (0 : Int32)), (0, va_rf l0)]) dX12_exchange_188 rfl (by decide) rfl ?_
    refine mm_sub C [1, 0] rfl ?_
    exact w_X12_exchange_189 hd C _ _ _ _ hK
  · replace hK := mm_in hc hK
    refine mm_bipush C (pc := 179) (v := ((-10) : Int32)) dX12_exchange_179 (by decide) ?_
    refine mm_aload_n C (pc := 181) 0 dX12_exchange_181 rfl ?_
    replace hK := mm_bd hK; obtain ⟨v182, e182, hK⟩ := hK
    refine mm_geti C (pc := 182) (k := 12) inGX12 rfl (by decide) wd_2011 dX12_exchange_182 e182 ?_
    refine mm_isub C (pc := 185) dX12_exchange_185 ?_
    obtain ⟨rfl, rfl⟩ := Prod.mk.inj (Option.some.inj hK)
    exact mm_iret C (pc := 186) rfl dX12_exchange_186 rfl rfl
def F_X12_exchange_145 (l0 : Option Nat) (h : MH) : Option (Int32 × MH) := (gI h l0 12 12).bind fun v147 => (pI h l0 12 14 v147).bind fun h150 => (gI h150 l0 12 12).bind fun v155 => if v155 = 0 then (F_X12_exchange_169 l0 ((-1) : Int32) l0 h150) else ((gI h150 l0 12 13).bind fun v166 => F_X12_exchange_169 l0 v166 l0 h150)
set_option maxRecDepth 20000 in
set_option maxHeartbeats 4000000 in
theorem w_X12_exchange_145 {d : Nat} {V : Nat → List (Nat × Value) → List Value → MH → Prop} {r : Int32} {hz : MH} (hd : 139 ≤ d) (C : mm_C d yX12_exchange cX12_exchange 3 (some .int) (.inr (some (.int r))) hz V) (l0 : Option Nat) (h : MH) (hK : F_X12_exchange_145 l0 h = some (r, hz)) : V 145 [(0, va_rf l0)] [] h := by
  unfold F_X12_exchange_145 at hK
  refine mm_aload_n C (pc := 145) 0 dX12_exchange_145 rfl ?_
  refine mm_aload_n C (pc := 146) 0 dX12_exchange_146 rfl ?_
  replace hK := mm_bd hK; obtain ⟨v147, e147, hK⟩ := hK
  refine mm_geti C (pc := 147) (k := 12) inGX12 rfl (by decide) wd_2011 dX12_exchange_147 e147 ?_
  replace hK := mm_bd hK; obtain ⟨h150, e150, hK⟩ := hK
  refine mm_puti C (pc := 150) (k := 14) false (fun z => by cases z) inGX12 tyX12 tyX12_ok nmX12 rfl (by decide) wd_2013 rfl rfl dX12_exchange_150 e150 ?_
  refine mm_aload_n C (pc := 153) 0 dX12_exchange_153 rfl ?_
  refine mm_aload_n C (pc := 154) 0 dX12_exchange_154 rfl ?_
  replace hK := mm_bd hK; obtain ⟨v155, e155, hK⟩ := hK
  refine mm_geti C (pc := 155) (k := 12) inGX12 rfl (by decide) wd_2011 dX12_exchange_155 e155 ?_
  refine mm_if_ne C (pc := 158) (tgt := 165) dX12_exchange_158 (by decide) (fun hc => ?_) (fun hc => ?_)
  · replace hK := mm_in hc hK
    refine mm_aload_n C (pc := 165) 0 dX12_exchange_165 rfl ?_
    replace hK := mm_bd hK; obtain ⟨v166, e166, hK⟩ := hK
    refine mm_geti C (pc := 166) (k := 13) inGX12 rfl (by decide) wd_2012 dX12_exchange_166 e166 ?_
    exact w_X12_exchange_169 hd C _ _ _ _ hK
  · replace hK := mm_ip hc hK
    refine mm_iconst C (pc := 161) (v := ((-1) : Int32)) dX12_exchange_161 (by decide) ?_
    refine mm_goto C (pc := 162) (tgt := 169) dX12_exchange_162 (by decide) ?_
    exact w_X12_exchange_169 hd C _ _ _ _ hK
def F_X12_exchange_124 : Nat → Option Nat → MH → Option (Int32 × MH)
  | 0 => fun _ _ => none
  | n + 1 => fun l0 h => (gI h l0 12 12).bind fun v125 => if v125 = 0 then ((gI h l0 12 10).bind fun v132 => if v132 = 0 then (F_X12_exchange_145 l0 h) else ((cV h l0 12 (F_X12_readLine l0 h)).bind fun h139 => F_X12_exchange_124 n l0 h139)) else (F_X12_exchange_145 l0 h)
set_option maxRecDepth 20000 in
set_option maxHeartbeats 4000000 in
theorem w_X12_exchange_124 {d : Nat} {V : Nat → List (Nat × Value) → List Value → MH → Prop} {r : Int32} {hz : MH} (hd : 139 ≤ d) (C : mm_C d yX12_exchange cX12_exchange 3 (some .int) (.inr (some (.int r))) hz V) : ∀ (n : Nat) (l0 : Option Nat) (h : MH), F_X12_exchange_124 n l0 h = some (r, hz) → V 124 [(0, va_rf l0)] [] h := by
  intro n
  induction n with
  | zero => intro l0 h hK; cases hK
  | succ n ih =>
    intro l0 h hK
    replace hK : ((gI h l0 12 12).bind fun v125 => if v125 = 0 then ((gI h l0 12 10).bind fun v132 => if v132 = 0 then (F_X12_exchange_145 l0 h) else ((cV h l0 12 (F_X12_readLine l0 h)).bind fun h139 => F_X12_exchange_124 n l0 h139)) else (F_X12_exchange_145 l0 h)) = some (r, hz) := hK
    refine mm_aload_n C (pc := 124) 0 dX12_exchange_124 rfl ?_
    replace hK := mm_bd hK; obtain ⟨v125, e125, hK⟩ := hK
    refine mm_geti C (pc := 125) (k := 12) inGX12 rfl (by decide) wd_2011 dX12_exchange_125 e125 ?_
    refine mm_if_ne C (pc := 128) (tgt := 145) dX12_exchange_128 (by decide) (fun hc => ?_) (fun hc => ?_)
    · replace hK := mm_in hc hK
      exact w_X12_exchange_145 hd C _ _ hK
    · replace hK := mm_ip hc hK
      refine mm_aload_n C (pc := 131) 0 dX12_exchange_131 rfl ?_
      replace hK := mm_bd hK; obtain ⟨v132, e132, hK⟩ := hK
      refine mm_geti C (pc := 132) (k := 10) inGX12 rfl (by decide) wd_2009 dX12_exchange_132 e132 ?_
      refine mm_if_eq C (pc := 135) (tgt := 145) dX12_exchange_135 (by decide) (fun hc => ?_) (fun hc => ?_)
      · replace hK := mm_ip hc hK
        exact w_X12_exchange_145 hd C _ _ hK
      · replace hK := mm_in hc hK
        refine mm_aload_n C (pc := 138) 0 dX12_exchange_138 rfl ?_
        replace hK := mm_bd hK; obtain ⟨h139, e139, hK⟩ := hK
        obtain ⟨o139, e139⟩ := cV_some e139
        refine mm_callV C (pc := 139) (d1 := 138) (As := []) (st := []) (vk := none) ((S_X12_readLine (by omega)) e139) tT_X12_readLine o139 (Or.inr ⟨_, rfl, rfl⟩) wd_2212 wd_2214 wd_71 (by omega) (by decide) rfl (by simp [mm_crf, mm_cti, mm_ctl]) rfl dX12_exchange_139 ?_
        show V _ _ [] _
        refine mm_goto C (pc := 142) (tgt := 124) dX12_exchange_142 (by decide) ?_
        exact ih _ _ hK
def F_X12_exchange_74 : Nat → Option Nat → Int32 → MH → Option (Int32 × MH)
  | 0 => fun _ _ _ => none
  | n + 1 => fun l0 l2 h => if (8 : Int32) ≤ l2 then ((cV h l0 12 (F_X12_readsOn l0 h)).bind fun h97 => (cV h97 l0 12 (F_X12_mustWord l0 (some 34 : Option Nat) h97)).bind fun h104 => (gR h104 l0 12 1).bind fun v108 => mm_b2 (cV h104 l0 12 (F_X12_number l0 (2 : Int32) (8 : Int32) h104)) fun v116 h116 => (sI h116 v108 0 (1 : Int32) v116).bind fun h119 => (cV h119 l0 12 (F_X12_readStop l0 h119)).bind fun h121 => F_X12_exchange_124 mm_N l0 h121) else ((gR h l0 12 1).bind fun v81 => (sI h v81 0 ((38 : Int32) + l2) ((-1) : Int32)).bind fun h89 => F_X12_exchange_74 n l0 (l2 + (1 : Int32)) h89)
set_option maxRecDepth 20000 in
set_option maxHeartbeats 4000000 in
theorem w_X12_exchange_74 {d : Nat} {V : Nat → List (Nat × Value) → List Value → MH → Prop} {r : Int32} {hz : MH} (hd : 139 ≤ d) (C : mm_C d yX12_exchange cX12_exchange 3 (some .int) (.inr (some (.int r))) hz V) : ∀ (n : Nat) (l0 : Option Nat) (l2 : Int32) (h : MH), F_X12_exchange_74 n l0 l2 h = some (r, hz) → V 74 [(0, va_rf l0), (2, .int l2)] [] h := by
  intro n
  induction n with
  | zero => intro l0 l2 h hK; cases hK
  | succ n ih =>
    intro l0 l2 h hK
    replace hK : (if (8 : Int32) ≤ l2 then ((cV h l0 12 (F_X12_readsOn l0 h)).bind fun h97 => (cV h97 l0 12 (F_X12_mustWord l0 (some 34 : Option Nat) h97)).bind fun h104 => (gR h104 l0 12 1).bind fun v108 => mm_b2 (cV h104 l0 12 (F_X12_number l0 (2 : Int32) (8 : Int32) h104)) fun v116 h116 => (sI h116 v108 0 (1 : Int32) v116).bind fun h119 => (cV h119 l0 12 (F_X12_readStop l0 h119)).bind fun h121 => F_X12_exchange_124 mm_N l0 h121) else ((gR h l0 12 1).bind fun v81 => (sI h v81 0 ((38 : Int32) + l2) ((-1) : Int32)).bind fun h89 => F_X12_exchange_74 n l0 (l2 + (1 : Int32)) h89)) = some (r, hz) := hK
    refine mm_iload_n C (pc := 74) 1 dX12_exchange_74 rfl ?_
    refine mm_bipush C (pc := 75) (v := (8 : Int32)) dX12_exchange_75 (by decide) ?_
    refine mm_icmp_ge C (pc := 77) (tgt := 96) dX12_exchange_77 (by decide) (fun hc => ?_) (fun hc => ?_)
    · replace hK := mm_ip hc hK
      refine mm_aload_n C (pc := 96) 0 dX12_exchange_96 rfl ?_
      replace hK := mm_bd hK; obtain ⟨h97, e97, hK⟩ := hK
      obtain ⟨o97, e97⟩ := cV_some e97
      refine mm_callV C (pc := 97) (d1 := 2) (As := []) (st := []) (vk := none) ((S_X12_readsOn (by omega)) e97) tT_X12_readsOn o97 (Or.inr ⟨_, rfl, rfl⟩) wd_2164 wd_2166 wd_62 (by omega) (by decide) rfl (by simp [mm_crf, mm_cti, mm_ctl]) rfl dX12_exchange_97 ?_
      show V _ _ [] _
      refine mm_aload_n C (pc := 100) 0 dX12_exchange_100 rfl ?_
      refine mm_ldcwS C (pc := 101) (i := 34) (by decide) (by rfl) dX12_exchange_101 ?_
      replace hK := mm_bd hK; obtain ⟨h104, e104, hK⟩ := hK
      obtain ⟨o104, e104⟩ := cV_some e104
      refine mm_callV C (pc := 104) (d1 := 7) (As := [va_rf (some 34 : Option Nat)]) (st := []) (vk := none) ((S_X12_mustWord (by omega)) e104) tT_X12_mustWord o104 (Or.inr ⟨_, rfl, rfl⟩) wd_2182 wd_2184 wd_64 (by omega) (by decide) rfl (by simp [mm_crf, mm_cti, mm_ctl]) rfl dX12_exchange_104 ?_
      show V _ _ [] _
      refine mm_aload_n C (pc := 107) 0 dX12_exchange_107 rfl ?_
      replace hK := mm_bd hK; obtain ⟨v108, e108, hK⟩ := hK
      refine mm_getr C (pc := 108) (k := 1) inGX12 rfl (by decide) wd_2000 dX12_exchange_108 e108 ?_
      refine mm_iconst C (pc := 111) (v := (1 : Int32)) dX12_exchange_111 (by decide) ?_
      refine mm_aload_n C (pc := 112) 0 dX12_exchange_112 rfl ?_
      refine mm_iconst C (pc := 113) (v := (2 : Int32)) dX12_exchange_113 (by decide) ?_
      refine mm_bipush C (pc := 114) (v := (8 : Int32)) dX12_exchange_114 (by decide) ?_
      replace hK := mm_b2s hK; obtain ⟨v116, h116, e116, hK⟩ := hK
      obtain ⟨o116, e116⟩ := cV_some e116
      refine mm_callV C (pc := 116) (d1 := 3) (As := [.int (2 : Int32), .int (8 : Int32)]) (st := [.int (1 : Int32), va_rf v108]) (vk := (some (.int v116))) ((S_X12_number (by omega)) e116) tT_X12_number o116 (Or.inr ⟨_, rfl, rfl⟩) wd_2200 wd_2202 wd_68 (by omega) (by decide) rfl (by simp [mm_crf, mm_cti, mm_ctl]) rfl dX12_exchange_116 ?_
      show V _ _ (.int v116 :: _) _
      replace hK := mm_bd hK; obtain ⟨h119, e119, hK⟩ := hK
      refine mm_iast C (pc := 119) dX12_exchange_119 e119 ?_
      refine mm_aload_n C (pc := 120) 0 dX12_exchange_120 rfl ?_
      replace hK := mm_bd hK; obtain ⟨h121, e121, hK⟩ := hK
      obtain ⟨o121, e121⟩ := cV_some e121
      refine mm_callV C (pc := 121) (d1 := 4) (As := []) (st := []) (vk := none) ((S_X12_readStop (by omega)) e121) tT_X12_readStop o121 (Or.inr ⟨_, rfl, rfl⟩) wd_2204 wd_2206 wd_69 (by omega) (by decide) rfl (by simp [mm_crf, mm_cti, mm_ctl]) rfl dX12_exchange_121 ?_
      show V _ _ [] _
      refine mm_sub C [0] rfl ?_
      exact w_X12_exchange_124 hd C _ _ _ hK
    · replace hK := mm_in hc hK
      refine mm_aload_n C (pc := 80) 0 dX12_exchange_80 rfl ?_
      replace hK := mm_bd hK; obtain ⟨v81, e81, hK⟩ := hK
      refine mm_getr C (pc := 81) (k := 1) inGX12 rfl (by decide) wd_2000 dX12_exchange_81 e81 ?_
      refine mm_bipush C (pc := 84) (v := (38 : Int32)) dX12_exchange_84 (by decide) ?_
      refine mm_iload_n C (pc := 86) 1 dX12_exchange_86 rfl ?_
      refine mm_iadd C (pc := 87) dX12_exchange_87 ?_
      refine mm_iconst C (pc := 88) (v := ((-1) : Int32)) dX12_exchange_88 (by decide) ?_
      replace hK := mm_bd hK; obtain ⟨h89, e89, hK⟩ := hK
      refine mm_iast C (pc := 89) dX12_exchange_89 e89 ?_
      refine mm_iinc C (pc := 90) (v := (l2 + (1 : Int32))) (lv' := [(2, .int (l2 + (1 : Int32))), (0, va_rf l0)]) 1 dX12_exchange_90 rfl rfl (by decide) rfl ?_
      refine mm_goto C (pc := 93) (tgt := 74) dX12_exchange_93 (by decide) ?_
      refine mm_sub C [1, 0] rfl ?_
      exact ih _ _ _ hK
def F_X12_exchange_52 : Nat → Option Nat → Int32 → MH → Option (Int32 × MH)
  | 0 => fun _ _ _ => none
  | n + 1 => fun l0 l2 h => if (3205 : Int32) ≤ l2 then (F_X12_exchange_74 mm_N l0 (0 : Int32) h) else ((gR h l0 12 1).bind fun v60 => (sI h v60 0 l2 (0 : Int32)).bind fun h65 => F_X12_exchange_52 n l0 (l2 + (1 : Int32)) h65)
set_option maxRecDepth 20000 in
set_option maxHeartbeats 4000000 in
theorem w_X12_exchange_52 {d : Nat} {V : Nat → List (Nat × Value) → List Value → MH → Prop} {r : Int32} {hz : MH} (hd : 139 ≤ d) (C : mm_C d yX12_exchange cX12_exchange 3 (some .int) (.inr (some (.int r))) hz V) : ∀ (n : Nat) (l0 : Option Nat) (l2 : Int32) (h : MH), F_X12_exchange_52 n l0 l2 h = some (r, hz) → V 52 [(0, va_rf l0), (2, .int l2)] [] h := by
  intro n
  induction n with
  | zero => intro l0 l2 h hK; cases hK
  | succ n ih =>
    intro l0 l2 h hK
    replace hK : (if (3205 : Int32) ≤ l2 then (F_X12_exchange_74 mm_N l0 (0 : Int32) h) else ((gR h l0 12 1).bind fun v60 => (sI h v60 0 l2 (0 : Int32)).bind fun h65 => F_X12_exchange_52 n l0 (l2 + (1 : Int32)) h65)) = some (r, hz) := hK
    refine mm_iload_n C (pc := 52) 1 dX12_exchange_52 rfl ?_
    refine mm_sipush C (pc := 53) (v := (3205 : Int32)) dX12_exchange_53 (by decide) ?_
    refine mm_icmp_ge C (pc := 56) (tgt := 72) dX12_exchange_56 (by decide) (fun hc => ?_) (fun hc => ?_)
    · replace hK := mm_ip hc hK
      refine mm_iconst C (pc := 72) (v := (0 : Int32)) dX12_exchange_72 (by decide) ?_
      refine mm_istore_n C (pc := 73) (i := 2) (lv' := [(2, .int (0 : Int32)), (0, va_rf l0)]) dX12_exchange_73 rfl (by decide) rfl ?_
      refine mm_sub C [1, 0] rfl ?_
      exact w_X12_exchange_74 hd C _ _ _ _ hK
    · replace hK := mm_in hc hK
      refine mm_aload_n C (pc := 59) 0 dX12_exchange_59 rfl ?_
      replace hK := mm_bd hK; obtain ⟨v60, e60, hK⟩ := hK
      refine mm_getr C (pc := 60) (k := 1) inGX12 rfl (by decide) wd_2000 dX12_exchange_60 e60 ?_
      refine mm_iload_n C (pc := 63) 1 dX12_exchange_63 rfl ?_
      refine mm_iconst C (pc := 64) (v := (0 : Int32)) dX12_exchange_64 (by decide) ?_
      replace hK := mm_bd hK; obtain ⟨h65, e65, hK⟩ := hK
      refine mm_iast C (pc := 65) dX12_exchange_65 e65 ?_
      refine mm_iinc C (pc := 66) (v := (l2 + (1 : Int32))) (lv' := [(2, .int (l2 + (1 : Int32))), (0, va_rf l0)]) 1 dX12_exchange_66 rfl rfl (by decide) rfl ?_
      refine mm_goto C (pc := 69) (tgt := 52) dX12_exchange_69 (by decide) ?_
      refine mm_sub C [1, 0] rfl ?_
      exact ih _ _ _ hK
def F_X12_exchange (a0 : Option Nat) (a1 : Int32) (h : MH) : Option (Int32 × MH) := (pI h a0 12 4 (0 : Int32)).bind fun h2 => (gI h2 a0 12 6).bind fun v9 => mm_b2 (F_X12_within (a1.toInt64) (0 : Int64) (v9.toInt64) h2) fun v13 h13 => if v13 = 0 then (mm_b2 (cV h13 a0 12 (F_X12_fails a0 (1 : Int32) h13)) fun v21 h21 => some (v21, h21)) else ((pI h13 a0 12 7 a1).bind fun h27 => (pI h27 a0 12 6 (0 : Int32)).bind fun h32 => (pI h32 a0 12 8 (0 : Int32)).bind fun h37 => (pI h37 a0 12 12 (0 : Int32)).bind fun h42 => (pI h42 a0 12 16 (0 : Int32)).bind fun h47 => F_X12_exchange_52 mm_N a0 (0 : Int32) h47)
set_option maxRecDepth 20000 in
set_option maxHeartbeats 4000000 in
theorem S_X12_exchange {d : Nat} (hd : 139 ≤ d) {a0 : Option Nat} {a1 : Int32} {h : MH} {r : Int32} {hz : MH} (hK : F_X12_exchange a0 a1 h = some (r, hz)) : mm_M yX12_exchange cX12_exchange 3 (some .int) d [va_rf a0, .int a1] h (.inr (some (.int r))) hz := by
  refine mm_ofV (by decide +kernel) (by simp [lg_sl, mm_crf, mm_cti, mm_ctl]) (fun V C => ?_)
  rw [show lv_args 0 [va_rf a0, .int a1] = [(0, va_rf a0), (1, .int a1)] by simp [lv_args, mm_crf, mm_cti, mm_ctl]]
  unfold F_X12_exchange at hK
  refine mm_aload_n C (pc := 0) 0 dX12_exchange_0 rfl ?_
  refine mm_iconst C (pc := 1) (v := (0 : Int32)) dX12_exchange_1 (by decide) ?_
  replace hK := mm_bd hK; obtain ⟨h2, e2, hK⟩ := hK
  refine mm_puti C (pc := 2) (k := 4) false (fun z => by cases z) inGX12 tyX12 tyX12_ok nmX12 rfl (by decide) wd_2003 rfl rfl dX12_exchange_2 e2 ?_
  refine mm_iload_n C (pc := 5) 1 dX12_exchange_5 rfl ?_
  refine mm_i2l C (pc := 6) dX12_exchange_6 ?_
  refine mm_lconst C (pc := 7) (v := (0 : Int64)) dX12_exchange_7 (by decide) ?_
  refine mm_aload_n C (pc := 8) 0 dX12_exchange_8 rfl ?_
  replace hK := mm_bd hK; obtain ⟨v9, e9, hK⟩ := hK
  refine mm_geti C (pc := 9) (k := 6) inGX12 rfl (by decide) wd_2005 dX12_exchange_9 e9 ?_
  refine mm_i2l C (pc := 12) dX12_exchange_12 ?_
  replace hK := mm_b2s hK; obtain ⟨v13, h13, e13, hK⟩ := hK
  refine mm_callS C (pc := 13) (d1 := 1) (As := [.long (a1.toInt64), .long (0 : Int64), .long (v9.toInt64)]) (st := []) (vk := (some (.int v13))) ((S_X12_within (by omega)) e13) tT_X12_within wd_2157 wd_2158 (by omega) (by decide) rfl (by simp [mm_crf, mm_cti, mm_ctl]) rfl dX12_exchange_13 ?_
  show V _ _ (.int v13 :: _) _
  refine mm_if_ne C (pc := 16) (tgt := 25) dX12_exchange_16 (by decide) (fun hc => ?_) (fun hc => ?_)
  · replace hK := mm_in hc hK
    refine mm_aload_n C (pc := 25) 0 dX12_exchange_25 rfl ?_
    refine mm_iload_n C (pc := 26) 1 dX12_exchange_26 rfl ?_
    replace hK := mm_bd hK; obtain ⟨h27, e27, hK⟩ := hK
    refine mm_puti C (pc := 27) (k := 7) false (fun z => by cases z) inGX12 tyX12 tyX12_ok nmX12 rfl (by decide) wd_2006 rfl rfl dX12_exchange_27 e27 ?_
    refine mm_aload_n C (pc := 30) 0 dX12_exchange_30 rfl ?_
    refine mm_iconst C (pc := 31) (v := (0 : Int32)) dX12_exchange_31 (by decide) ?_
    replace hK := mm_bd hK; obtain ⟨h32, e32, hK⟩ := hK
    refine mm_puti C (pc := 32) (k := 6) false (fun z => by cases z) inGX12 tyX12 tyX12_ok nmX12 rfl (by decide) wd_2005 rfl rfl dX12_exchange_32 e32 ?_
    refine mm_aload_n C (pc := 35) 0 dX12_exchange_35 rfl ?_
    refine mm_iconst C (pc := 36) (v := (0 : Int32)) dX12_exchange_36 (by decide) ?_
    replace hK := mm_bd hK; obtain ⟨h37, e37, hK⟩ := hK
    refine mm_puti C (pc := 37) (k := 8) false (fun z => by cases z) inGX12 tyX12 tyX12_ok nmX12 rfl (by decide) wd_2007 rfl rfl dX12_exchange_37 e37 ?_
    refine mm_aload_n C (pc := 40) 0 dX12_exchange_40 rfl ?_
    refine mm_iconst C (pc := 41) (v := (0 : Int32)) dX12_exchange_41 (by decide) ?_
    replace hK := mm_bd hK; obtain ⟨h42, e42, hK⟩ := hK
    refine mm_puti C (pc := 42) (k := 12) false (fun z => by cases z) inGX12 tyX12 tyX12_ok nmX12 rfl (by decide) wd_2011 rfl rfl dX12_exchange_42 e42 ?_
    refine mm_aload_n C (pc := 45) 0 dX12_exchange_45 rfl ?_
    refine mm_iconst C (pc := 46) (v := (0 : Int32)) dX12_exchange_46 (by decide) ?_
    replace hK := mm_bd hK; obtain ⟨h47, e47, hK⟩ := hK
    refine mm_puti C (pc := 47) (k := 16) false (fun z => by cases z) inGX12 tyX12 tyX12_ok nmX12 rfl (by decide) wd_2015 rfl rfl dX12_exchange_47 e47 ?_
    refine mm_iconst C (pc := 50) (v := (0 : Int32)) dX12_exchange_50 (by decide) ?_
    refine mm_istore_n C (pc := 51) (i := 2) (lv' := [(2, .int (0 : Int32)), (0, va_rf a0), (1, .int a1)]) dX12_exchange_51 rfl (by decide) rfl ?_
    refine mm_sub C [1, 0] rfl ?_
    exact w_X12_exchange_52 hd C _ _ _ _ hK
  · replace hK := mm_ip hc hK
    refine mm_aload_n C (pc := 19) 0 dX12_exchange_19 rfl ?_
    refine mm_iconst C (pc := 20) (v := (1 : Int32)) dX12_exchange_20 (by decide) ?_
    replace hK := mm_b2s hK; obtain ⟨v21, h21, e21, hK⟩ := hK
    obtain ⟨o21, e21⟩ := cV_some e21
    refine mm_callV C (pc := 21) (d1 := 1) (As := [.int (1 : Int32)]) (st := []) (vk := (some (.int v21))) ((S_X12_fails (by omega)) e21) tT_X12_fails o21 (Or.inr ⟨_, rfl, rfl⟩) wd_2160 wd_2162 wd_61 (by omega) (by decide) rfl (by simp [mm_crf, mm_cti, mm_ctl]) rfl dX12_exchange_21 ?_
    show V _ _ (.int v21 :: _) _
    cases hK
    exact mm_iret C (pc := 24) rfl dX12_exchange_24 rfl rfl
def F_X12_fault_29 (s0 : Int32) (h : MH) : Option (Int32 × MH) := some (s0, h)
set_option maxRecDepth 20000 in
set_option maxHeartbeats 4000000 in
theorem w_X12_fault_29 {d : Nat} {V : Nat → List (Nat × Value) → List Value → MH → Prop} {r : Int32} {hz : MH} (hd : 1 ≤ d) (C : mm_C d yX12_fault cX12_fault 2 (some .int) (.inr (some (.int r))) hz V) (s0 : Int32) (h : MH) (hK : F_X12_fault_29 s0 h = some (r, hz)) : V 29 [] [.int s0] h := by
  unfold F_X12_fault_29 at hK
  cases hK
  exact mm_iret C (pc := 29) rfl dX12_fault_29 rfl rfl
def F_X12_fault (a0 : Option Nat) (a1 : Int32) (h : MH) : Option (Int32 × MH) := (pI h a0 12 4 (0 : Int32)).bind fun h2 => if a1 = 0 then ((gI h2 a0 12 14).bind fun v10 => F_X12_fault_29 v10 h2) else (if a1 = (1 : Int32) then ((gI h2 a0 12 15).bind fun v22 => F_X12_fault_29 v22 h2) else (F_X12_fault_29 ((-1) : Int32) h2))
set_option maxRecDepth 20000 in
set_option maxHeartbeats 4000000 in
theorem S_X12_fault {d : Nat} (hd : 1 ≤ d) {a0 : Option Nat} {a1 : Int32} {h : MH} {r : Int32} {hz : MH} (hK : F_X12_fault a0 a1 h = some (r, hz)) : mm_M yX12_fault cX12_fault 2 (some .int) d [va_rf a0, .int a1] h (.inr (some (.int r))) hz := by
  refine mm_ofV (by decide +kernel) (by simp [lg_sl, mm_crf, mm_cti, mm_ctl]) (fun V C => ?_)
  rw [show lv_args 0 [va_rf a0, .int a1] = [(0, va_rf a0), (1, .int a1)] by simp [lv_args, mm_crf, mm_cti, mm_ctl]]
  unfold F_X12_fault at hK
  refine mm_aload_n C (pc := 0) 0 dX12_fault_0 rfl ?_
  refine mm_iconst C (pc := 1) (v := (0 : Int32)) dX12_fault_1 (by decide) ?_
  replace hK := mm_bd hK; obtain ⟨h2, e2, hK⟩ := hK
  refine mm_puti C (pc := 2) (k := 4) false (fun z => by cases z) inGX12 tyX12 tyX12_ok nmX12 rfl (by decide) wd_2003 rfl rfl dX12_fault_2 e2 ?_
  refine mm_iload_n C (pc := 5) 1 dX12_fault_5 rfl ?_
  refine mm_if_ne C (pc := 6) (tgt := 16) dX12_fault_6 (by decide) (fun hc => ?_) (fun hc => ?_)
  · replace hK := mm_in hc hK
    refine mm_iload_n C (pc := 16) 1 dX12_fault_16 rfl ?_
    refine mm_iconst C (pc := 17) (v := (1 : Int32)) dX12_fault_17 (by decide) ?_
    refine mm_icmp_ne C (pc := 18) (tgt := 28) dX12_fault_18 (by decide) (fun hc => ?_) (fun hc => ?_)
    · replace hK := mm_in hc hK
      refine mm_iconst C (pc := 28) (v := ((-1) : Int32)) dX12_fault_28 (by decide) ?_
      refine mm_sub C [] rfl ?_
      exact w_X12_fault_29 hd C _ _ hK
    · replace hK := mm_ip hc hK
      refine mm_aload_n C (pc := 21) 0 dX12_fault_21 rfl ?_
      replace hK := mm_bd hK; obtain ⟨v22, e22, hK⟩ := hK
      refine mm_geti C (pc := 22) (k := 15) inGX12 rfl (by decide) wd_2014 dX12_fault_22 e22 ?_
      refine mm_goto C (pc := 25) (tgt := 29) dX12_fault_25 (by decide) ?_
      refine mm_sub C [] rfl ?_
      exact w_X12_fault_29 hd C _ _ hK
  · replace hK := mm_ip hc hK
    refine mm_aload_n C (pc := 9) 0 dX12_fault_9 rfl ?_
    replace hK := mm_bd hK; obtain ⟨v10, e10, hK⟩ := hK
    refine mm_geti C (pc := 10) (k := 14) inGX12 rfl (by decide) wd_2013 dX12_fault_10 e10 ?_
    refine mm_goto C (pc := 13) (tgt := 29) dX12_fault_13 (by decide) ?_
    refine mm_sub C [] rfl ?_
    exact w_X12_fault_29 hd C _ _ hK
def F_X12_isLine (a0 : Option Nat) (a1 : Int64) (h : MH) : Option (Int32 × MH) := (gR h a0 12 0).bind fun v3 => (aI h v3 0 (1 : Int32)).bind fun v7 => mm_b2 (F_X12_within a1 (0 : Int64) ((v7 - (1 : Int32)).toInt64) h) fun v11 h11 => rZ v11 h11
set_option maxRecDepth 20000 in
set_option maxHeartbeats 4000000 in
theorem S_X12_isLine {d : Nat} (hd : 2 ≤ d) {a0 : Option Nat} {a1 : Int64} {h : MH} {r : Int32} {hz : MH} (hK : F_X12_isLine a0 a1 h = some (r, hz)) : mm_M yX12_isLine cX12_isLine 3 (some .boolean) d [va_rf a0, .long a1] h (.inr (some (.int r))) hz := by
  refine mm_ofV (by decide +kernel) (by simp [lg_sl, mm_crf, mm_cti, mm_ctl]) (fun V C => ?_)
  rw [show lv_args 0 [va_rf a0, .long a1] = [(0, va_rf a0), (1, .long a1)] by simp [lv_args, mm_crf, mm_cti, mm_ctl]]
  unfold F_X12_isLine at hK
  refine mm_lload_n C (pc := 0) 1 dX12_isLine_0 rfl ?_
  refine mm_lconst C (pc := 1) (v := (0 : Int64)) dX12_isLine_1 (by decide) ?_
  refine mm_aload_n C (pc := 2) 0 dX12_isLine_2 rfl ?_
  replace hK := mm_bd hK; obtain ⟨v3, e3, hK⟩ := hK
  refine mm_getr C (pc := 3) (k := 0) inGX12 rfl (by decide) wd_1999 dX12_isLine_3 e3 ?_
  refine mm_iconst C (pc := 6) (v := (1 : Int32)) dX12_isLine_6 (by decide) ?_
  replace hK := mm_bd hK; obtain ⟨v7, e7, hK⟩ := hK
  refine mm_iald C (pc := 7) dX12_isLine_7 e7 ?_
  refine mm_iconst C (pc := 8) (v := (1 : Int32)) dX12_isLine_8 (by decide) ?_
  refine mm_isub C (pc := 9) dX12_isLine_9 ?_
  refine mm_i2l C (pc := 10) dX12_isLine_10 ?_
  replace hK := mm_b2s hK; obtain ⟨v11, h11, e11, hK⟩ := hK
  refine mm_callS C (pc := 11) (d1 := 1) (As := [.long a1, .long (0 : Int64), .long ((v7 - (1 : Int32)).toInt64)]) (st := []) (vk := (some (.int v11))) ((S_X12_within (by omega)) e11) tT_X12_within wd_2157 wd_2158 (by omega) (by decide) rfl (by simp [mm_crf, mm_cti, mm_ctl]) rfl dX12_isLine_11 ?_
  show V _ _ (.int v11 :: _) _
  replace hK := rZ_some hK; obtain ⟨hv14, hK⟩ := hK
  cases hK
  exact mm_zret C (pc := 14) rfl (mm_nrZ hv14) dX12_isLine_14 rfl rfl
def F_X12_isCall (a0 : Option Nat) (a1 : Int64) (h : MH) : Option (Int32 × MH) := mm_b2 (cV h a0 12 (F_X12_calls a0 h)) fun v3 h3 => mm_b2 (F_X12_within a1 (0 : Int64) ((v3 - (1 : Int32)).toInt64) h3) fun v9 h9 => rZ v9 h9
set_option maxRecDepth 20000 in
set_option maxHeartbeats 4000000 in
theorem S_X12_isCall {d : Nat} (hd : 2 ≤ d) {a0 : Option Nat} {a1 : Int64} {h : MH} {r : Int32} {hz : MH} (hK : F_X12_isCall a0 a1 h = some (r, hz)) : mm_M yX12_isCall cX12_isCall 3 (some .boolean) d [va_rf a0, .long a1] h (.inr (some (.int r))) hz := by
  refine mm_ofV (by decide +kernel) (by simp [lg_sl, mm_crf, mm_cti, mm_ctl]) (fun V C => ?_)
  rw [show lv_args 0 [va_rf a0, .long a1] = [(0, va_rf a0), (1, .long a1)] by simp [lv_args, mm_crf, mm_cti, mm_ctl]]
  unfold F_X12_isCall at hK
  refine mm_lload_n C (pc := 0) 1 dX12_isCall_0 rfl ?_
  refine mm_lconst C (pc := 1) (v := (0 : Int64)) dX12_isCall_1 (by decide) ?_
  refine mm_aload_n C (pc := 2) 0 dX12_isCall_2 rfl ?_
  replace hK := mm_b2s hK; obtain ⟨v3, h3, e3, hK⟩ := hK
  obtain ⟨o3, e3⟩ := cV_some e3
  refine mm_callV C (pc := 3) (d1 := 1) (As := []) (st := [.long (0 : Int64), .long a1]) (vk := (some (.int v3))) ((S_X12_calls (by omega)) e3) tT_X12_calls o3 (Or.inr ⟨_, rfl, rfl⟩) wd_2295 wd_2297 wd_87 (by omega) (by decide) rfl (by simp [mm_crf, mm_cti, mm_ctl]) rfl dX12_isCall_3 ?_
  show V _ _ (.int v3 :: _) _
  refine mm_iconst C (pc := 6) (v := (1 : Int32)) dX12_isCall_6 (by decide) ?_
  refine mm_isub C (pc := 7) dX12_isCall_7 ?_
  refine mm_i2l C (pc := 8) dX12_isCall_8 ?_
  replace hK := mm_b2s hK; obtain ⟨v9, h9, e9, hK⟩ := hK
  refine mm_callS C (pc := 9) (d1 := 1) (As := [.long a1, .long (0 : Int64), .long ((v3 - (1 : Int32)).toInt64)]) (st := []) (vk := (some (.int v9))) ((S_X12_within (by omega)) e9) tT_X12_within wd_2157 wd_2158 (by omega) (by decide) rfl (by simp [mm_crf, mm_cti, mm_ctl]) rfl dX12_isCall_9 ?_
  show V _ _ (.int v9 :: _) _
  replace hK := rZ_some hK; obtain ⟨hv12, hK⟩ := hK
  cases hK
  exact mm_zret C (pc := 12) rfl (mm_nrZ hv12) dX12_isCall_12 rfl rfl
theorem wd_2318 : Cond.code yX12_has cX12_has 2 (some .boolean) ∈ lw_good := mm_wd 2318 (by decide +kernel) (by decide +kernel)
theorem tT_X12_has : mm_T yX12_has cX12_has 2 (some .boolean) 2 := ⟨wd_2318, wd_170, by decide +kernel, by decide +kernel, by decide +kernel, by decide +kernel⟩
theorem wd_2316 : Cond.methodLink RX12 270 yX12_has ∈ lw_good := mm_wd 2316 (by decide +kernel) (by decide +kernel)
theorem wd_2317 : Cond.static yX12_has ∈ lw_good := mm_wd 2317 (by decide +kernel) (by decide +kernel)
def F_X12_isShut (a0 : Option Nat) (a1 : Int32) (h : MH) : Option (Int32 × MH) := (gR h a0 12 0).bind fun v1 => (aI h v1 0 (46 : Int32)).bind fun v6 => mm_b2 (F_X12_has v6 a1 h) fun v8 h8 => rZ v8 h8
set_option maxRecDepth 20000 in
set_option maxHeartbeats 4000000 in
theorem S_X12_isShut {d : Nat} (hd : 2 ≤ d) {a0 : Option Nat} {a1 : Int32} {h : MH} {r : Int32} {hz : MH} (hK : F_X12_isShut a0 a1 h = some (r, hz)) : mm_M yX12_isShut cX12_isShut 2 (some .boolean) d [va_rf a0, .int a1] h (.inr (some (.int r))) hz := by
  refine mm_ofV (by decide +kernel) (by simp [lg_sl, mm_crf, mm_cti, mm_ctl]) (fun V C => ?_)
  rw [show lv_args 0 [va_rf a0, .int a1] = [(0, va_rf a0), (1, .int a1)] by simp [lv_args, mm_crf, mm_cti, mm_ctl]]
  unfold F_X12_isShut at hK
  refine mm_aload_n C (pc := 0) 0 dX12_isShut_0 rfl ?_
  replace hK := mm_bd hK; obtain ⟨v1, e1, hK⟩ := hK
  refine mm_getr C (pc := 1) (k := 0) inGX12 rfl (by decide) wd_1999 dX12_isShut_1 e1 ?_
  refine mm_bipush C (pc := 4) (v := (46 : Int32)) dX12_isShut_4 (by decide) ?_
  replace hK := mm_bd hK; obtain ⟨v6, e6, hK⟩ := hK
  refine mm_iald C (pc := 6) dX12_isShut_6 e6 ?_
  refine mm_iload_n C (pc := 7) 1 dX12_isShut_7 rfl ?_
  replace hK := mm_b2s hK; obtain ⟨v8, h8, e8, hK⟩ := hK
  refine mm_callS C (pc := 8) (d1 := 1) (As := [.int v6, .int a1]) (st := []) (vk := (some (.int v8))) ((S_X12_has (by omega)) e8) tT_X12_has wd_2316 wd_2317 (by omega) (by decide) rfl (by simp [mm_crf, mm_cti, mm_ctl]) rfl dX12_isShut_8 ?_
  show V _ _ (.int v8 :: _) _
  replace hK := rZ_some hK; obtain ⟨hv11, hK⟩ := hK
  cases hK
  exact mm_zret C (pc := 11) rfl (mm_nrZ hv11) dX12_isShut_11 rfl rfl
theorem wd_2358 : Cond.constantLong RX12 273 ((-1000000) : Int64) ∈ lw_good := mm_wd 2358 (by decide +kernel) (by decide +kernel)
theorem wd_2359 : Cond.constantLong RX12 275 (1000000 : Int64) ∈ lw_good := mm_wd 2359 (by decide +kernel) (by decide +kernel)
theorem wd_2360 : Cond.methodLink RX12 277 yJ9_min_f86c9 ∈ lw_good := mm_wd 2360 (by decide +kernel) (by decide +kernel)
theorem wd_2361 : Cond.static yJ9_min_f86c9 ∈ lw_good := mm_wd 2361 (by decide +kernel) (by decide +kernel)
theorem wd_2362 : Cond.code yJ9_min_f86c9 cJ9_min_f86c9 4 (some .long) ∈ lw_good := mm_wd 2362 (by decide +kernel) (by decide +kernel)
theorem wd_2363 : Cond.methodLink RX12 283 yJ9_max_f86c9 ∈ lw_good := mm_wd 2363 (by decide +kernel) (by decide +kernel)
theorem wd_2364 : Cond.static yJ9_max_f86c9 ∈ lw_good := mm_wd 2364 (by decide +kernel) (by decide +kernel)
theorem wd_2365 : Cond.code yJ9_max_f86c9 cJ9_max_f86c9 4 (some .long) ∈ lw_good := mm_wd 2365 (by decide +kernel) (by decide +kernel)
def F_X12_bound (a0 : Int64) (h : MH) : Option (Int32 × MH) := some (((mxL ((-1000000) : Int64) (mnL (1000000 : Int64) a0)).toInt32), h)
set_option maxRecDepth 20000 in
set_option maxHeartbeats 4000000 in
theorem S_X12_bound {d : Nat} (hd : 1 ≤ d) {a0 : Int64} {h : MH} {r : Int32} {hz : MH} (hK : F_X12_bound a0 h = some (r, hz)) : mm_M yX12_bound cX12_bound 2 (some .int) d [.long a0] h (.inr (some (.int r))) hz := by
  refine mm_ofV (by decide +kernel) (by simp [lg_sl, mm_crf, mm_cti, mm_ctl]) (fun V C => ?_)
  rw [show lv_args 0 [.long a0] = [(0, .long a0)] by simp [lv_args, mm_crf, mm_cti, mm_ctl]]
  unfold F_X12_bound at hK
  refine mm_ldc2 C (pc := 0) (v := ((-1000000) : Int64)) dX12_bound_0 wd_2358 ?_
  refine mm_ldc2 C (pc := 3) (v := (1000000 : Int64)) dX12_bound_3 wd_2359 ?_
  refine mm_lload_n C (pc := 6) 0 dX12_bound_6 rfl ?_
  refine mm_mminl C (pc := 7) wd_2360 wd_2361 wd_152 wd_2362 (by omega) (by simp [mm_crf, mm_cti, mm_ctl]) dX12_bound_7 ?_
  refine mm_mmaxl C (pc := 10) wd_2363 wd_2364 wd_152 wd_2365 (by omega) (by simp [mm_crf, mm_cti, mm_ctl]) dX12_bound_10 ?_
  refine mm_l2i C (pc := 13) dX12_bound_13 ?_
  cases hK
  exact mm_iret C (pc := 14) rfl dX12_bound_14 rfl rfl
theorem wd_2357 : Cond.code yX12_bound cX12_bound 2 (some .int) ∈ lw_good := mm_wd 2357 (by decide +kernel) (by decide +kernel)
theorem tT_X12_bound : mm_T yX12_bound cX12_bound 2 (some .int) 1 := ⟨wd_2357, wd_170, by decide +kernel, by decide +kernel, by decide +kernel, by decide +kernel⟩
theorem wd_2355 : Cond.methodLink RX12 286 yX12_bound ∈ lw_good := mm_wd 2355 (by decide +kernel) (by decide +kernel)
theorem wd_2356 : Cond.static yX12_bound ∈ lw_good := mm_wd 2356 (by decide +kernel) (by decide +kernel)
def F_X12_done_76 (s0 : Int32) (h : MH) : Option (Int32 × MH) := some (s0, h)
set_option maxRecDepth 20000 in
set_option maxHeartbeats 4000000 in
theorem w_X12_done_76 {d : Nat} {V : Nat → List (Nat × Value) → List Value → MH → Prop} {r : Int32} {hz : MH} (hd : 2 ≤ d) (C : mm_C d yX12_done cX12_done 5 (some .int) (.inr (some (.int r))) hz V) (s0 : Int32) (h : MH) (hK : F_X12_done_76 s0 h = some (r, hz)) : V 76 [] [.int s0] h := by
  unfold F_X12_done_76 at hK
  cases hK
  exact mm_iret C (pc := 76) rfl dX12_done_76 rfl rfl
def F_X12_done_88 (s0 : Int32) (h : MH) : Option (Int32 × MH) := some (s0, h)
set_option maxRecDepth 20000 in
set_option maxHeartbeats 4000000 in
theorem w_X12_done_88 {d : Nat} {V : Nat → List (Nat × Value) → List Value → MH → Prop} {r : Int32} {hz : MH} (hd : 2 ≤ d) (C : mm_C d yX12_done cX12_done 5 (some .int) (.inr (some (.int r))) hz V) (s0 : Int32) (h : MH) (hK : F_X12_done_88 s0 h = some (r, hz)) : V 88 [] [.int s0] h := by
  unfold F_X12_done_88 at hK
  cases hK
  exact mm_iret C (pc := 88) rfl dX12_done_88 rfl rfl
def F_X12_done_100 (s0 : Int32) (h : MH) : Option (Int32 × MH) := some (s0, h)
set_option maxRecDepth 20000 in
set_option maxHeartbeats 4000000 in
theorem w_X12_done_100 {d : Nat} {V : Nat → List (Nat × Value) → List Value → MH → Prop} {r : Int32} {hz : MH} (hd : 2 ≤ d) (C : mm_C d yX12_done cX12_done 5 (some .int) (.inr (some (.int r))) hz V) (s0 : Int32) (h : MH) (hK : F_X12_done_100 s0 h = some (r, hz)) : V 100 [] [.int s0] h := by
  unfold F_X12_done_100 at hK
  cases hK
  exact mm_iret C (pc := 100) rfl dX12_done_100 rfl rfl
def F_X12_done_114 (s0 : Int32) (h : MH) : Option (Int32 × MH) := some (s0, h)
set_option maxRecDepth 20000 in
set_option maxHeartbeats 4000000 in
theorem w_X12_done_114 {d : Nat} {V : Nat → List (Nat × Value) → List Value → MH → Prop} {r : Int32} {hz : MH} (hd : 2 ≤ d) (C : mm_C d yX12_done cX12_done 5 (some .int) (.inr (some (.int r))) hz V) (s0 : Int32) (h : MH) (hK : F_X12_done_114 s0 h = some (r, hz)) : V 114 [] [.int s0] h := by
  unfold F_X12_done_114 at hK
  cases hK
  exact mm_iret C (pc := 114) rfl dX12_done_114 rfl rfl
def F_X12_done_128 (s0 : Int32) (h : MH) : Option (Int32 × MH) := some (s0, h)
set_option maxRecDepth 20000 in
set_option maxHeartbeats 4000000 in
theorem w_X12_done_128 {d : Nat} {V : Nat → List (Nat × Value) → List Value → MH → Prop} {r : Int32} {hz : MH} (hd : 2 ≤ d) (C : mm_C d yX12_done cX12_done 5 (some .int) (.inr (some (.int r))) hz V) (s0 : Int32) (h : MH) (hK : F_X12_done_128 s0 h = some (r, hz)) : V 128 [] [.int s0] h := by
  unfold F_X12_done_128 at hK
  cases hK
  exact mm_iret C (pc := 128) rfl dX12_done_128 rfl rfl
def F_X12_done (a0 : Int32) (a1 : Int64) (a2 : Int64) (h : MH) : Option (Int32 × MH) := if a0 = (10 : Int32) then (mm_b2 (F_X12_bound (a1 + a2) h) fun v47 h47 => some (v47, h47)) else if a0 = (11 : Int32) then (mm_b2 (F_X12_bound (a1 - a2) h) fun v54 h54 => some (v54, h54)) else if a0 = (12 : Int32) then (mm_b2 (F_X12_bound (a1 * a2) h) fun v61 h61 => some (v61, h61)) else if a0 = (13 : Int32) then (if (lg_cmp a1 a2) = 0 then (F_X12_done_76 (1 : Int32) h) else (F_X12_done_76 (0 : Int32) h)) else if a0 = (14 : Int32) then (if 0 ≤ (lg_cmp a1 a2) then (F_X12_done_88 (0 : Int32) h) else (F_X12_done_88 (1 : Int32) h)) else if a0 = (15 : Int32) then (if (lg_cmp a1 a2) ≤ 0 then (F_X12_done_100 (0 : Int32) h) else (F_X12_done_100 (1 : Int32) h)) else if a0 = (16 : Int32) then (if (lg_cmp (a1 + a2) (1 : Int64)) ≤ 0 then (F_X12_done_114 (0 : Int32) h) else (F_X12_done_114 (1 : Int32) h)) else (if (lg_cmp (a1 + a2) (0 : Int64)) ≤ 0 then (F_X12_done_128 (0 : Int32) h) else (F_X12_done_128 (1 : Int32) h))
set_option maxRecDepth 20000 in
set_option maxHeartbeats 4000000 in
theorem S_X12_done {d : Nat} (hd : 2 ≤ d) {a0 : Int32} {a1 : Int64} {a2 : Int64} {h : MH} {r : Int32} {hz : MH} (hK : F_X12_done a0 a1 a2 h = some (r, hz)) : mm_M yX12_done cX12_done 5 (some .int) d [.int a0, .long a1, .long a2] h (.inr (some (.int r))) hz := by
  refine mm_ofV (by decide +kernel) (by simp [lg_sl, mm_crf, mm_cti, mm_ctl]) (fun V C => ?_)
  rw [show lv_args 0 [.int a0, .long a1, .long a2] = [(0, .int a0), (1, .long a1), (3, .long a2)] by simp [lv_args, mm_crf, mm_cti, mm_ctl]]
  unfold F_X12_done at hK
  refine mm_iload_n C (pc := 0) 0 dX12_done_0 rfl ?_
  by_cases hc1_10 : a0 = (10 : Int32)
  · replace hK := mm_ip hc1_10 hK
    refine mm_tableIn C (pc := 1) (tgt := 44) (off := 43) dX12_done_1 (by rw [hc1_10]; decide) (by rw [hc1_10]; decide) (by rw [hc1_10]; rfl) (by decide) ?_
    refine mm_lload_n C (pc := 44) 1 dX12_done_44 rfl ?_
    refine mm_lload_n C (pc := 45) 2 dX12_done_45 rfl ?_
    refine mm_ladd C (pc := 46) dX12_done_46 ?_
    replace hK := mm_b2s hK; obtain ⟨v47, h47, e47, hK⟩ := hK
    refine mm_callS C (pc := 47) (d1 := 1) (As := [.long (a1 + a2)]) (st := []) (vk := (some (.int v47))) ((S_X12_bound (by omega)) e47) tT_X12_bound wd_2355 wd_2356 (by omega) (by decide) rfl (by simp [mm_crf, mm_cti, mm_ctl]) rfl dX12_done_47 ?_
    show V _ _ (.int v47 :: _) _
    cases hK
    exact mm_iret C (pc := 50) rfl dX12_done_50 rfl rfl
  replace hK := mm_in hc1_10 hK
  by_cases hc1_11 : a0 = (11 : Int32)
  · replace hK := mm_ip hc1_11 hK
    refine mm_tableIn C (pc := 1) (tgt := 51) (off := 50) dX12_done_1 (by rw [hc1_11]; decide) (by rw [hc1_11]; decide) (by rw [hc1_11]; rfl) (by decide) ?_
    refine mm_lload_n C (pc := 51) 1 dX12_done_51 rfl ?_
    refine mm_lload_n C (pc := 52) 2 dX12_done_52 rfl ?_
    refine mm_lsub C (pc := 53) dX12_done_53 ?_
    replace hK := mm_b2s hK; obtain ⟨v54, h54, e54, hK⟩ := hK
    refine mm_callS C (pc := 54) (d1 := 1) (As := [.long (a1 - a2)]) (st := []) (vk := (some (.int v54))) ((S_X12_bound (by omega)) e54) tT_X12_bound wd_2355 wd_2356 (by omega) (by decide) rfl (by simp [mm_crf, mm_cti, mm_ctl]) rfl dX12_done_54 ?_
    show V _ _ (.int v54 :: _) _
    cases hK
    exact mm_iret C (pc := 57) rfl dX12_done_57 rfl rfl
  replace hK := mm_in hc1_11 hK
  by_cases hc1_12 : a0 = (12 : Int32)
  · replace hK := mm_ip hc1_12 hK
    refine mm_tableIn C (pc := 1) (tgt := 58) (off := 57) dX12_done_1 (by rw [hc1_12]; decide) (by rw [hc1_12]; decide) (by rw [hc1_12]; rfl) (by decide) ?_
    refine mm_lload_n C (pc := 58) 1 dX12_done_58 rfl ?_
    refine mm_lload_n C (pc := 59) 2 dX12_done_59 rfl ?_
    refine mm_lmul C (pc := 60) dX12_done_60 ?_
    replace hK := mm_b2s hK; obtain ⟨v61, h61, e61, hK⟩ := hK
    refine mm_callS C (pc := 61) (d1 := 1) (As := [.long (a1 * a2)]) (st := []) (vk := (some (.int v61))) ((S_X12_bound (by omega)) e61) tT_X12_bound wd_2355 wd_2356 (by omega) (by decide) rfl (by simp [mm_crf, mm_cti, mm_ctl]) rfl dX12_done_61 ?_
    show V _ _ (.int v61 :: _) _
    cases hK
    exact mm_iret C (pc := 64) rfl dX12_done_64 rfl rfl
  replace hK := mm_in hc1_12 hK
  by_cases hc1_13 : a0 = (13 : Int32)
  · replace hK := mm_ip hc1_13 hK
    refine mm_tableIn C (pc := 1) (tgt := 65) (off := 64) dX12_done_1 (by rw [hc1_13]; decide) (by rw [hc1_13]; decide) (by rw [hc1_13]; rfl) (by decide) ?_
    refine mm_lload_n C (pc := 65) 1 dX12_done_65 rfl ?_
    refine mm_lload_n C (pc := 66) 2 dX12_done_66 rfl ?_
    refine mm_lcmp C (pc := 67) dX12_done_67 ?_
    refine mm_if_ne C (pc := 68) (tgt := 75) dX12_done_68 (by decide) (fun hc => ?_) (fun hc => ?_)
    · replace hK := mm_in hc hK
      refine mm_iconst C (pc := 75) (v := (0 : Int32)) dX12_done_75 (by decide) ?_
      refine mm_sub C [] rfl ?_
      exact w_X12_done_76 hd C _ _ hK
    · replace hK := mm_ip hc hK
      refine mm_iconst C (pc := 71) (v := (1 : Int32)) dX12_done_71 (by decide) ?_
      refine mm_goto C (pc := 72) (tgt := 76) dX12_done_72 (by decide) ?_
      refine mm_sub C [] rfl ?_
      exact w_X12_done_76 hd C _ _ hK
  replace hK := mm_in hc1_13 hK
  by_cases hc1_14 : a0 = (14 : Int32)
  · replace hK := mm_ip hc1_14 hK
    refine mm_tableIn C (pc := 1) (tgt := 77) (off := 76) dX12_done_1 (by rw [hc1_14]; decide) (by rw [hc1_14]; decide) (by rw [hc1_14]; rfl) (by decide) ?_
    refine mm_lload_n C (pc := 77) 1 dX12_done_77 rfl ?_
    refine mm_lload_n C (pc := 78) 2 dX12_done_78 rfl ?_
    refine mm_lcmp C (pc := 79) dX12_done_79 ?_
    refine mm_if_ge C (pc := 80) (tgt := 87) dX12_done_80 (by decide) (fun hc => ?_) (fun hc => ?_)
    · replace hK := mm_ip hc hK
      refine mm_iconst C (pc := 87) (v := (0 : Int32)) dX12_done_87 (by decide) ?_
      refine mm_sub C [] rfl ?_
      exact w_X12_done_88 hd C _ _ hK
    · replace hK := mm_in hc hK
      refine mm_iconst C (pc := 83) (v := (1 : Int32)) dX12_done_83 (by decide) ?_
      refine mm_goto C (pc := 84) (tgt := 88) dX12_done_84 (by decide) ?_
      refine mm_sub C [] rfl ?_
      exact w_X12_done_88 hd C _ _ hK
  replace hK := mm_in hc1_14 hK
  by_cases hc1_15 : a0 = (15 : Int32)
  · replace hK := mm_ip hc1_15 hK
    refine mm_tableIn C (pc := 1) (tgt := 89) (off := 88) dX12_done_1 (by rw [hc1_15]; decide) (by rw [hc1_15]; decide) (by rw [hc1_15]; rfl) (by decide) ?_
    refine mm_lload_n C (pc := 89) 1 dX12_done_89 rfl ?_
    refine mm_lload_n C (pc := 90) 2 dX12_done_90 rfl ?_
    refine mm_lcmp C (pc := 91) dX12_done_91 ?_
    refine mm_if_le C (pc := 92) (tgt := 99) dX12_done_92 (by decide) (fun hc => ?_) (fun hc => ?_)
    · replace hK := mm_ip hc hK
      refine mm_iconst C (pc := 99) (v := (0 : Int32)) dX12_done_99 (by decide) ?_
      refine mm_sub C [] rfl ?_
      exact w_X12_done_100 hd C _ _ hK
    · replace hK := mm_in hc hK
      refine mm_iconst C (pc := 95) (v := (1 : Int32)) dX12_done_95 (by decide) ?_
      refine mm_goto C (pc := 96) (tgt := 100) dX12_done_96 (by decide) ?_
      refine mm_sub C [] rfl ?_
      exact w_X12_done_100 hd C _ _ hK
  replace hK := mm_in hc1_15 hK
  by_cases hc1_16 : a0 = (16 : Int32)
  · replace hK := mm_ip hc1_16 hK
    refine mm_tableIn C (pc := 1) (tgt := 101) (off := 100) dX12_done_1 (by rw [hc1_16]; decide) (by rw [hc1_16]; decide) (by rw [hc1_16]; rfl) (by decide) ?_
    refine mm_lload_n C (pc := 101) 1 dX12_done_101 rfl ?_
    refine mm_lload_n C (pc := 102) 2 dX12_done_102 rfl ?_
    refine mm_ladd C (pc := 103) dX12_done_103 ?_
    refine mm_lconst C (pc := 104) (v := (1 : Int64)) dX12_done_104 (by decide) ?_
    refine mm_lcmp C (pc := 105) dX12_done_105 ?_
    refine mm_if_le C (pc := 106) (tgt := 113) dX12_done_106 (by decide) (fun hc => ?_) (fun hc => ?_)
    · replace hK := mm_ip hc hK
      refine mm_iconst C (pc := 113) (v := (0 : Int32)) dX12_done_113 (by decide) ?_
      refine mm_sub C [] rfl ?_
      exact w_X12_done_114 hd C _ _ hK
    · replace hK := mm_in hc hK
      refine mm_iconst C (pc := 109) (v := (1 : Int32)) dX12_done_109 (by decide) ?_
      refine mm_goto C (pc := 110) (tgt := 114) dX12_done_110 (by decide) ?_
      refine mm_sub C [] rfl ?_
      exact w_X12_done_114 hd C _ _ hK
  replace hK := mm_in hc1_16 hK
  refine mm_tableOut C (pc := 1) (tgt := 115) dX12_done_1 (by have t10 := mm_nei hc1_10 (k := 10) (by decide); have t11 := mm_nei hc1_11 (k := 11) (by decide); have t12 := mm_nei hc1_12 (k := 12) (by decide); have t13 := mm_nei hc1_13 (k := 13) (by decide); have t14 := mm_nei hc1_14 (k := 14) (by decide); have t15 := mm_nei hc1_15 (k := 15) (by decide); have t16 := mm_nei hc1_16 (k := 16) (by decide); omega) (by decide) ?_
  refine mm_lload_n C (pc := 115) 1 dX12_done_115 rfl ?_
  refine mm_lload_n C (pc := 116) 2 dX12_done_116 rfl ?_
  refine mm_ladd C (pc := 117) dX12_done_117 ?_
  refine mm_lconst C (pc := 118) (v := (0 : Int64)) dX12_done_118 (by decide) ?_
  refine mm_lcmp C (pc := 119) dX12_done_119 ?_
  refine mm_if_le C (pc := 120) (tgt := 127) dX12_done_120 (by decide) (fun hc => ?_) (fun hc => ?_)
  · replace hK := mm_ip hc hK
    refine mm_iconst C (pc := 127) (v := (0 : Int32)) dX12_done_127 (by decide) ?_
    refine mm_sub C [] rfl ?_
    exact w_X12_done_128 hd C _ _ hK
  · replace hK := mm_in hc hK
    refine mm_iconst C (pc := 123) (v := (1 : Int32)) dX12_done_123 (by decide) ?_
    refine mm_goto C (pc := 124) (tgt := 128) dX12_done_124 (by decide) ?_
    refine mm_sub C [] rfl ?_
    exact w_X12_done_128 hd C _ _ hK
theorem wd_2354 : Cond.code yX12_done cX12_done 5 (some .int) ∈ lw_good := mm_wd 2354 (by decide +kernel) (by decide +kernel)
theorem tT_X12_done : mm_T yX12_done cX12_done 5 (some .int) 3 := ⟨wd_2354, wd_170, by decide +kernel, by decide +kernel, by decide +kernel, by decide +kernel⟩
theorem wd_2352 : Cond.methodLink RX12 290 yX12_done ∈ lw_good := mm_wd 2352 (by decide +kernel) (by decide +kernel)
theorem wd_2353 : Cond.static yX12_done ∈ lw_good := mm_wd 2353 (by decide +kernel) (by decide +kernel)
def F_X12_lawOf_133 (k5 : Option Nat → Int32 → Int32 → Int32 → Int32 → MH → Option (Int32 × MH)) (l0 : Option Nat) (l1 : Int32) (l2 : Int32) (l3 : Int32) (l4 : Int32) (h : MH) : Option (Int32 × MH) := k5 l0 l1 l2 l3 (l4 + (1 : Int32)) h
set_option maxRecDepth 20000 in
set_option maxHeartbeats 4000000 in
theorem w_X12_lawOf_133 {d : Nat} {V : Nat → List (Nat × Value) → List Value → MH → Prop} {r : Int32} {hz : MH} {k5 : Option Nat → Int32 → Int32 → Int32 → Int32 → MH → Option (Int32 × MH)} (hd : 3 ≤ d) (C : mm_C d yX12_lawOf cX12_lawOf 6 (some .int) (.inr (some (.int r))) hz V) (q5 : ∀ (x0 : Option Nat) (x1 : Int32) (x2 : Int32) (x3 : Int32) (x4 : Int32) (h : MH), k5 x0 x1 x2 x3 x4 h = some (r, hz) → V 5 [(0, va_rf x0), (1, .int x1), (2, .int x2), (3, .int x3), (4, .int x4)] [] h) (l0 : Option Nat) (l1 : Int32) (l2 : Int32) (l3 : Int32) (l4 : Int32) (h : MH) (hK : F_X12_lawOf_133 k5 l0 l1 l2 l3 l4 h = some (r, hz)) : V 133 [(0, va_rf l0), (1, .int l1), (2, .int l2), (3, .int l3), (4, .int l4)] [] h := by
  unfold F_X12_lawOf_133 at hK
  refine mm_iinc C (pc := 133) (v := (l4 + (1 : Int32))) (lv' := [(4, .int (l4 + (1 : Int32))), (0, va_rf l0), (1, .int l1), (2, .int l2), (3, .int l3)]) 4 dX12_lawOf_133 rfl rfl (by decide) rfl ?_
  refine mm_goto C (pc := 136) (tgt := 5) dX12_lawOf_136 (by decide) ?_
  refine mm_sub C [1, 2, 3, 4, 0] rfl ?_
  exact q5 _ _ _ _ _ _ hK
def F_X12_lawOf_66 (k5 : Option Nat → Int32 → Int32 → Int32 → Int32 → MH → Option (Int32 × MH)) (l0 : Option Nat) (l1 : Int32) (l2 : Int32) (l3 : Int32) (l4 : Int32) (s0 : Int32) (s1 : Int32) (s2 : Option Nat) (h : MH) : Option (Int32 × MH) := (sI h s2 0 s1 s0).bind fun h66 => F_X12_lawOf_133 k5 l0 l1 l2 (l3 + (1 : Int32)) l4 h66
set_option maxRecDepth 20000 in
set_option maxHeartbeats 4000000 in
theorem w_X12_lawOf_66 {d : Nat} {V : Nat → List (Nat × Value) → List Value → MH → Prop} {r : Int32} {hz : MH} {k5 : Option Nat → Int32 → Int32 → Int32 → Int32 → MH → Option (Int32 × MH)} (hd : 3 ≤ d) (C : mm_C d yX12_lawOf cX12_lawOf 6 (some .int) (.inr (some (.int r))) hz V) (q5 : ∀ (x0 : Option Nat) (x1 : Int32) (x2 : Int32) (x3 : Int32) (x4 : Int32) (h : MH), k5 x0 x1 x2 x3 x4 h = some (r, hz) → V 5 [(0, va_rf x0), (1, .int x1), (2, .int x2), (3, .int x3), (4, .int x4)] [] h) (l0 : Option Nat) (l1 : Int32) (l2 : Int32) (l3 : Int32) (l4 : Int32) (s0 : Int32) (s1 : Int32) (s2 : Option Nat) (h : MH) (hK : F_X12_lawOf_66 k5 l0 l1 l2 l3 l4 s0 s1 s2 h = some (r, hz)) : V 66 [(0, va_rf l0), (1, .int l1), (2, .int l2), (3, .int l3), (4, .int l4)] [.int s0, .int s1, va_rf s2] h := by
  unfold F_X12_lawOf_66 at hK
  replace hK := mm_bd hK; obtain ⟨h66, e66, hK⟩ := hK
  refine mm_iast C (pc := 66) dX12_lawOf_66 e66 ?_
  refine mm_iinc C (pc := 67) (v := (l3 + (1 : Int32))) (lv' := [(3, .int (l3 + (1 : Int32))), (0, va_rf l0), (1, .int l1), (2, .int l2), (4, .int l4)]) 3 dX12_lawOf_67 rfl rfl (by decide) rfl ?_
  refine mm_goto C (pc := 70) (tgt := 133) dX12_lawOf_70 (by decide) ?_
  refine mm_sub C [1, 2, 3, 0, 4] rfl ?_
  exact w_X12_lawOf_133 hd C (fun z0 z1 z2 z3 z4 z5 hK => q5 z0 z1 z2 z3 z4 z5 hK) _ _ _ _ _ _ hK
def F_X12_lawOf_5 : Nat → Option Nat → Int32 → Int32 → Int32 → Int32 → MH → Option (Int32 × MH)
  | 0 => fun _ _ _ _ _ _ => none
  | n + 1 => fun l0 l1 l2 l3 l4 h => (gR h l0 12 0).bind fun v8 => (aI h v8 0 l1).bind fun v12 => if v12 ≤ l4 then ((gR h l0 12 19).bind fun v140 => (aI h v140 0 (0 : Int32)).bind fun v144 => some (v144, h)) else ((gR h l0 12 0).bind fun v17 => (aI h v17 0 (l2 + l4)).bind fun v24 => if v24 < (100 : Int32) then (if v24 = (18 : Int32) then ((gR h l0 12 19).bind fun v81 => (gR h l0 12 19).bind fun v89 => (aI h v89 0 (l3 - (1 : Int32))).bind fun v95 => (sI h v81 0 (l3 - (1 : Int32)) ((1 : Int32) - v95)).bind fun h97 => F_X12_lawOf_133 (F_X12_lawOf_5 n) l0 l1 l2 l3 l4 h97) else ((gR h l0 12 19).bind fun v105 => (gR h l0 12 19).bind fun v114 => (aI h v114 0 ((l3 + ((-1) : Int32)) - (1 : Int32))).bind fun v120 => (gR h l0 12 19).bind fun v123 => (aI h v123 0 (l3 + ((-1) : Int32))).bind fun v127 => mm_b2 (F_X12_done v24 (v120.toInt64) (v127.toInt64) h) fun v129 h129 => (sI h129 v105 0 ((l3 + ((-1) : Int32)) - (1 : Int32)) v129).bind fun h132 => F_X12_lawOf_133 (F_X12_lawOf_5 n) l0 l1 l2 (l3 + ((-1) : Int32)) l4 h132)) else ((gR h l0 12 19).bind fun v35 => if v24 < (1000 : Int32) then ((gR h l0 12 20).bind fun v57 => (aI h v57 0 (v24 - (100 : Int32))).bind fun v65 => F_X12_lawOf_66 (F_X12_lawOf_5 n) l0 l1 l2 l3 l4 v65 l3 v35 h) else (F_X12_lawOf_66 (F_X12_lawOf_5 n) l0 l1 l2 l3 l4 (v24 - (1000 : Int32)) l3 v35 h)))
set_option maxRecDepth 20000 in
set_option maxHeartbeats 4000000 in
theorem w_X12_lawOf_5 {d : Nat} {V : Nat → List (Nat × Value) → List Value → MH → Prop} {r : Int32} {hz : MH} (hd : 3 ≤ d) (C : mm_C d yX12_lawOf cX12_lawOf 6 (some .int) (.inr (some (.int r))) hz V) : ∀ (n : Nat) (l0 : Option Nat) (l1 : Int32) (l2 : Int32) (l3 : Int32) (l4 : Int32) (h : MH), F_X12_lawOf_5 n l0 l1 l2 l3 l4 h = some (r, hz) → V 5 [(0, va_rf l0), (1, .int l1), (2, .int l2), (3, .int l3), (4, .int l4)] [] h := by
  intro n
  induction n with
  | zero => intro l0 l1 l2 l3 l4 h hK; cases hK
  | succ n ih =>
    intro l0 l1 l2 l3 l4 h hK
    replace hK : ((gR h l0 12 0).bind fun v8 => (aI h v8 0 l1).bind fun v12 => if v12 ≤ l4 then ((gR h l0 12 19).bind fun v140 => (aI h v140 0 (0 : Int32)).bind fun v144 => some (v144, h)) else ((gR h l0 12 0).bind fun v17 => (aI h v17 0 (l2 + l4)).bind fun v24 => if v24 < (100 : Int32) then (if v24 = (18 : Int32) then ((gR h l0 12 19).bind fun v81 => (gR h l0 12 19).bind fun v89 => (aI h v89 0 (l3 - (1 : Int32))).bind fun v95 => (sI h v81 0 (l3 - (1 : Int32)) ((1 : Int32) - v95)).bind fun h97 => F_X12_lawOf_133 (F_X12_lawOf_5 n) l0 l1 l2 l3 l4 h97) else ((gR h l0 12 19).bind fun v105 => (gR h l0 12 19).bind fun v114 => (aI h v114 0 ((l3 + ((-1) : Int32)) - (1 : Int32))).bind fun v120 => (gR h l0 12 19).bind fun v123 => (aI h v123 0 (l3 + ((-1) : Int32))).bind fun v127 => mm_b2 (F_X12_done v24 (v120.toInt64) (v127.toInt64) h) fun v129 h129 => (sI h129 v105 0 ((l3 + ((-1) : Int32)) - (1 : Int32)) v129).bind fun h132 => F_X12_lawOf_133 (F_X12_lawOf_5 n) l0 l1 l2 (l3 + ((-1) : Int32)) l4 h132)) else ((gR h l0 12 19).bind fun v35 => if v24 < (1000 : Int32) then ((gR h l0 12 20).bind fun v57 => (aI h v57 0 (v24 - (100 : Int32))).bind fun v65 => F_X12_lawOf_66 (F_X12_lawOf_5 n) l0 l1 l2 l3 l4 v65 l3 v35 h) else (F_X12_lawOf_66 (F_X12_lawOf_5 n) l0 l1 l2 l3 l4 (v24 - (1000 : Int32)) l3 v35 h)))) = some (r, hz) := hK
    refine mm_iload C (pc := 5) 4 dX12_lawOf_5 rfl ?_
    refine mm_aload_n C (pc := 7) 0 dX12_lawOf_7 rfl ?_
    replace hK := mm_bd hK; obtain ⟨v8, e8, hK⟩ := hK
    refine mm_getr C (pc := 8) (k := 0) inGX12 rfl (by decide) wd_1999 dX12_lawOf_8 e8 ?_
    refine mm_iload_n C (pc := 11) 1 dX12_lawOf_11 rfl ?_
    replace hK := mm_bd hK; obtain ⟨v12, e12, hK⟩ := hK
    refine mm_iald C (pc := 12) dX12_lawOf_12 e12 ?_
    refine mm_icmp_ge C (pc := 13) (tgt := 139) dX12_lawOf_13 (by decide) (fun hc => ?_) (fun hc => ?_)
    · replace hK := mm_ip hc hK
      refine mm_aload_n C (pc := 139) 0 dX12_lawOf_139 rfl ?_
      replace hK := mm_bd hK; obtain ⟨v140, e140, hK⟩ := hK
      refine mm_getr C (pc := 140) (k := 19) inGX12 rfl (by decide) wd_2018 dX12_lawOf_140 e140 ?_
      refine mm_iconst C (pc := 143) (v := (0 : Int32)) dX12_lawOf_143 (by decide) ?_
      replace hK := mm_bd hK; obtain ⟨v144, e144, hK⟩ := hK
      refine mm_iald C (pc := 144) dX12_lawOf_144 e144 ?_
      cases hK
      exact mm_iret C (pc := 145) rfl dX12_lawOf_145 rfl rfl
    · replace hK := mm_in hc hK
      refine mm_aload_n C (pc := 16) 0 dX12_lawOf_16 rfl ?_
      replace hK := mm_bd hK; obtain ⟨v17, e17, hK⟩ := hK
      refine mm_getr C (pc := 17) (k := 0) inGX12 rfl (by decide) wd_1999 dX12_lawOf_17 e17 ?_
      refine mm_iload_n C (pc := 20) 2 dX12_lawOf_20 rfl ?_
      refine mm_iload C (pc := 21) 4 dX12_lawOf_21 rfl ?_
      refine mm_iadd C (pc := 23) dX12_lawOf_23 ?_
      replace hK := mm_bd hK; obtain ⟨v24, e24, hK⟩ := hK
      refine mm_iald C (pc := 24) dX12_lawOf_24 e24 ?_
      refine mm_istore C (pc := 25) (i := 5) (lv' := [(5, .int v24), (0, va_rf l0), (1, .int l1), (2, .int l2), (3, .int l3), (4, .int l4)]) dX12_lawOf_25 (by decide) rfl ?_
      refine mm_iload C (pc := 27) 0 dX12_lawOf_27 rfl ?_
      refine mm_bipush C (pc := 29) (v := (100 : Int32)) dX12_lawOf_29 (by decide) ?_
      refine mm_icmp_lt C (pc := 31) (tgt := 73) dX12_lawOf_31 (by decide) (fun hc => ?_) (fun hc => ?_)
      · replace hK := mm_ip hc hK
        refine mm_iload C (pc := 73) 0 dX12_lawOf_73 rfl ?_
        refine mm_bipush C (pc := 75) (v := (18 : Int32)) dX12_lawOf_75 (by decide) ?_
        refine mm_icmp_ne C (pc := 77) (tgt := 101) dX12_lawOf_77 (by decide) (fun hc => ?_) (fun hc => ?_)
        · replace hK := mm_in hc hK
          refine mm_iinc C (pc := 101) (v := (l3 + ((-1) : Int32))) (lv' := [(3, .int (l3 + ((-1) : Int32))), (5, .int v24), (0, va_rf l0), (1, .int l1), (2, .int l2), (4, .int l4)]) 4 dX12_lawOf_101 rfl rfl (by decide) rfl ?_
          refine mm_aload_n C (pc := 104) 2 dX12_lawOf_104 rfl ?_
          replace hK := mm_bd hK; obtain ⟨v105, e105, hK⟩ := hK
          refine mm_getr C (pc := 105) (k := 19) inGX12 rfl (by decide) wd_2018 dX12_lawOf_105 e105 ?_
          refine mm_iload_n C (pc := 108) 0 dX12_lawOf_108 rfl ?_
          refine mm_iconst C (pc := 109) (v := (1 : Int32)) dX12_lawOf_109 (by decide) ?_
          refine mm_isub C (pc := 110) dX12_lawOf_110 ?_
          refine mm_iload C (pc := 111) 1 dX12_lawOf_111 rfl ?_
          refine mm_aload_n C (pc := 113) 2 dX12_lawOf_113 rfl ?_
          replace hK := mm_bd hK; obtain ⟨v114, e114, hK⟩ := hK
          refine mm_getr C (pc := 114) (k := 19) inGX12 rfl (by decide) wd_2018 dX12_lawOf_114 e114 ?_
          refine mm_iload_n C (pc := 117) 0 dX12_lawOf_117 rfl ?_
          refine mm_iconst C (pc := 118) (v := (1 : Int32)) dX12_lawOf_118 (by decide) ?_
          refine mm_isub C (pc := 119) dX12_lawOf_119 ?_
          replace hK := mm_bd hK; obtain ⟨v120, e120, hK⟩ := hK
          refine mm_iald C (pc := 120) dX12_lawOf_120 e120 ?_
          refine mm_i2l C (pc := 121) dX12_lawOf_121 ?_
          refine mm_aload_n C (pc := 122) 2 dX12_lawOf_122 rfl ?_
          replace hK := mm_bd hK; obtain ⟨v123, e123, hK⟩ := hK
          refine mm_getr C (pc := 123) (k := 19) inGX12 rfl (by decide) wd_2018 dX12_lawOf_123 e123 ?_
          refine mm_iload_n C (pc := 126) 0 dX12_lawOf_126 rfl ?_
          replace hK := mm_bd hK; obtain ⟨v127, e127, hK⟩ := hK
          refine mm_iald C (pc := 127) dX12_lawOf_127 e127 ?_
          refine mm_i2l C (pc := 128) dX12_lawOf_128 ?_
          replace hK := mm_b2s hK; obtain ⟨v129, h129, e129, hK⟩ := hK
          refine mm_callS C (pc := 129) (d1 := 2) (As := [.int v24, .long (v120.toInt64), .long (v127.toInt64)]) (st := [.int ((l3 + ((-1) : Int32)) - (1 : Int32)), va_rf v105]) (vk := (some (.int v129))) ((S_X12_done (by omega)) e129) tT_X12_done wd_2352 wd_2353 (by omega) (by decide) rfl (by simp [mm_crf, mm_cti, mm_ctl]) rfl dX12_lawOf_129 ?_
          show V _ _ (.int v129 :: _) _
          replace hK := mm_bd hK; obtain ⟨h132, e132, hK⟩ := hK
          refine mm_iast C (pc := 132) dX12_lawOf_132 e132 ?_
          refine mm_sub C [2, 3, 4, 0, 5] rfl ?_
          exact w_X12_lawOf_133 hd C (fun z0 z1 z2 z3 z4 z5 hK => ih z0 z1 z2 z3 z4 z5 hK) _ _ _ _ _ _ hK
        · replace hK := mm_ip hc hK
          refine mm_aload_n C (pc := 80) 1 dX12_lawOf_80 rfl ?_
          replace hK := mm_bd hK; obtain ⟨v81, e81, hK⟩ := hK
          refine mm_getr C (pc := 81) (k := 19) inGX12 rfl (by decide) wd_2018 dX12_lawOf_81 e81 ?_
          refine mm_iload_n C (pc := 84) 4 dX12_lawOf_84 rfl ?_
          refine mm_iconst C (pc := 85) (v := (1 : Int32)) dX12_lawOf_85 (by decide) ?_
          refine mm_isub C (pc := 86) dX12_lawOf_86 ?_
          refine mm_iconst C (pc := 87) (v := (1 : Int32)) dX12_lawOf_87 (by decide) ?_
          refine mm_aload_n C (pc := 88) 1 dX12_lawOf_88 rfl ?_
          replace hK := mm_bd hK; obtain ⟨v89, e89, hK⟩ := hK
          refine mm_getr C (pc := 89) (k := 19) inGX12 rfl (by decide) wd_2018 dX12_lawOf_89 e89 ?_
          refine mm_iload_n C (pc := 92) 4 dX12_lawOf_92 rfl ?_
          refine mm_iconst C (pc := 93) (v := (1 : Int32)) dX12_lawOf_93 (by decide) ?_
          refine mm_isub C (pc := 94) dX12_lawOf_94 ?_
          replace hK := mm_bd hK; obtain ⟨v95, e95, hK⟩ := hK
          refine mm_iald C (pc := 95) dX12_lawOf_95 e95 ?_
          refine mm_isub C (pc := 96) dX12_lawOf_96 ?_
          replace hK := mm_bd hK; obtain ⟨h97, e97, hK⟩ := hK
          refine mm_iast C (pc := 97) dX12_lawOf_97 e97 ?_
          refine mm_goto C (pc := 98) (tgt := 133) dX12_lawOf_98 (by decide) ?_
          refine mm_sub C [1, 2, 3, 4, 5] rfl ?_
          exact w_X12_lawOf_133 hd C (fun z0 z1 z2 z3 z4 z5 hK => ih z0 z1 z2 z3 z4 z5 hK) _ _ _ _ _ _ hK
      · replace hK := mm_in hc hK
        refine mm_aload_n C (pc := 34) 1 dX12_lawOf_34 rfl ?_
        replace hK := mm_bd hK; obtain ⟨v35, e35, hK⟩ := hK
        refine mm_getr C (pc := 35) (k := 19) inGX12 rfl (by decide) wd_2018 dX12_lawOf_35 e35 ?_
        refine mm_iload_n C (pc := 38) 4 dX12_lawOf_38 rfl ?_
        refine mm_iload C (pc := 39) 0 dX12_lawOf_39 rfl ?_
        refine mm_sipush C (pc := 41) (v := (1000 : Int32)) dX12_lawOf_41 (by decide) ?_
        refine mm_icmp_lt C (pc := 44) (tgt := 56) dX12_lawOf_44 (by decide) (fun hc => ?_) (fun hc => ?_)
        · replace hK := mm_ip hc hK
          refine mm_aload_n C (pc := 56) 1 dX12_lawOf_56 rfl ?_
          replace hK := mm_bd hK; obtain ⟨v57, e57, hK⟩ := hK
          refine mm_getr C (pc := 57) (k := 20) inGX12 rfl (by decide) wd_2019 dX12_lawOf_57 e57 ?_
          refine mm_iload C (pc := 60) 0 dX12_lawOf_60 rfl ?_
          refine mm_bipush C (pc := 62) (v := (100 : Int32)) dX12_lawOf_62 (by decide) ?_
          refine mm_isub C (pc := 64) dX12_lawOf_64 ?_
          replace hK := mm_bd hK; obtain ⟨v65, e65, hK⟩ := hK
          refine mm_iald C (pc := 65) dX12_lawOf_65 e65 ?_
          refine mm_sub C [1, 2, 3, 4, 5] rfl ?_
          exact w_X12_lawOf_66 hd C (fun z0 z1 z2 z3 z4 z5 hK => ih z0 z1 z2 z3 z4 z5 hK) _ _ _ _ _ _ _ _ _ hK
        · replace hK := mm_in hc hK
          refine mm_iload C (pc := 47) 0 dX12_lawOf_47 rfl ?_
          refine mm_sipush C (pc := 49) (v := (1000 : Int32)) dX12_lawOf_49 (by decide) ?_
          refine mm_isub C (pc := 52) dX12_lawOf_52 ?_
          refine mm_goto C (pc := 53) (tgt := 66) dX12_lawOf_53 (by decide) ?_
          refine mm_sub C [1, 2, 3, 4, 5] rfl ?_
          exact w_X12_lawOf_66 hd C (fun z0 z1 z2 z3 z4 z5 hK => ih z0 z1 z2 z3 z4 z5 hK) _ _ _ _ _ _ _ _ _ hK
def F_X12_lawOf (a0 : Option Nat) (a1 : Int32) (a2 : Int32) (h : MH) : Option (Int32 × MH) := F_X12_lawOf_5 mm_N a0 a1 a2 (0 : Int32) (0 : Int32) h
set_option maxRecDepth 20000 in
set_option maxHeartbeats 4000000 in
theorem S_X12_lawOf {d : Nat} (hd : 3 ≤ d) {a0 : Option Nat} {a1 : Int32} {a2 : Int32} {h : MH} {r : Int32} {hz : MH} (hK : F_X12_lawOf a0 a1 a2 h = some (r, hz)) : mm_M yX12_lawOf cX12_lawOf 6 (some .int) d [va_rf a0, .int a1, .int a2] h (.inr (some (.int r))) hz := by
  refine mm_ofV (by decide +kernel) (by simp [lg_sl, mm_crf, mm_cti, mm_ctl]) (fun V C => ?_)
  rw [show lv_args 0 [va_rf a0, .int a1, .int a2] = [(0, va_rf a0), (1, .int a1), (2, .int a2)] by simp [lv_args, mm_crf, mm_cti, mm_ctl]]
  unfold F_X12_lawOf at hK
  refine mm_iconst C (pc := 0) (v := (0 : Int32)) dX12_lawOf_0 (by decide) ?_
  refine mm_istore_n C (pc := 1) (i := 3) (lv' := [(3, .int (0 : Int32)), (0, va_rf a0), (1, .int a1), (2, .int a2)]) dX12_lawOf_1 rfl (by decide) rfl ?_
  refine mm_iconst C (pc := 2) (v := (0 : Int32)) dX12_lawOf_2 (by decide) ?_
  refine mm_istore C (pc := 3) (i := 4) (lv' := [(4, .int (0 : Int32)), (3, .int (0 : Int32)), (0, va_rf a0), (1, .int a1), (2, .int a2)]) dX12_lawOf_3 (by decide) rfl ?_
  refine mm_sub C [2, 3, 4, 1, 0] rfl ?_
  exact w_X12_lawOf_5 hd C _ _ _ _ _ _ _ hK
def F_X12_asks (a0 : Option Nat) (a1 : Int32) (a2 : Int32) (a3 : Int32) (a4 : Int32) (h : MH) : Option MH := (gR h a0 12 20).bind fun v1 => (sI h v1 0 (0 : Int32) a1).bind fun h6 => (gR h6 a0 12 20).bind fun v8 => (sI h6 v8 0 (1 : Int32) a2).bind fun h13 => (gR h13 a0 12 20).bind fun v15 => (sI h13 v15 0 (2 : Int32) (a3 - a3 / (60 : Int32) * (60 : Int32))).bind fun h23 => (gR h23 a0 12 20).bind fun v25 => (sI h23 v25 0 (3 : Int32) a4).bind fun h31 => some h31
set_option maxRecDepth 20000 in
set_option maxHeartbeats 4000000 in
theorem S_X12_asks {d : Nat} (hd : 1 ≤ d) {a0 : Option Nat} {a1 : Int32} {a2 : Int32} {a3 : Int32} {a4 : Int32} {h : MH} {hz : MH} (hK : F_X12_asks a0 a1 a2 a3 a4 h = some hz) : mm_M yX12_asks cX12_asks 5 none d [va_rf a0, .int a1, .int a2, .int a3, .int a4] h (.inr none) hz := by
  refine mm_ofV (by decide +kernel) (by simp [lg_sl, mm_crf, mm_cti, mm_ctl]) (fun V C => ?_)
  rw [show lv_args 0 [va_rf a0, .int a1, .int a2, .int a3, .int a4] = [(0, va_rf a0), (1, .int a1), (2, .int a2), (3, .int a3), (4, .int a4)] by simp [lv_args, mm_crf, mm_cti, mm_ctl]]
  unfold F_X12_asks at hK
  refine mm_aload_n C (pc := 0) 0 dX12_asks_0 rfl ?_
  replace hK := mm_bd hK; obtain ⟨v1, e1, hK⟩ := hK
  refine mm_getr C (pc := 1) (k := 20) inGX12 rfl (by decide) wd_2019 dX12_asks_1 e1 ?_
  refine mm_iconst C (pc := 4) (v := (0 : Int32)) dX12_asks_4 (by decide) ?_
  refine mm_iload_n C (pc := 5) 1 dX12_asks_5 rfl ?_
  replace hK := mm_bd hK; obtain ⟨h6, e6, hK⟩ := hK
  refine mm_iast C (pc := 6) dX12_asks_6 e6 ?_
  refine mm_aload_n C (pc := 7) 0 dX12_asks_7 rfl ?_
  replace hK := mm_bd hK; obtain ⟨v8, e8, hK⟩ := hK
  refine mm_getr C (pc := 8) (k := 20) inGX12 rfl (by decide) wd_2019 dX12_asks_8 e8 ?_
  refine mm_iconst C (pc := 11) (v := (1 : Int32)) dX12_asks_11 (by decide) ?_
  refine mm_iload_n C (pc := 12) 2 dX12_asks_12 rfl ?_
  replace hK := mm_bd hK; obtain ⟨h13, e13, hK⟩ := hK
  refine mm_iast C (pc := 13) dX12_asks_13 e13 ?_
  refine mm_aload_n C (pc := 14) 0 dX12_asks_14 rfl ?_
  replace hK := mm_bd hK; obtain ⟨v15, e15, hK⟩ := hK
  refine mm_getr C (pc := 15) (k := 20) inGX12 rfl (by decide) wd_2019 dX12_asks_15 e15 ?_
  refine mm_iconst C (pc := 18) (v := (2 : Int32)) dX12_asks_18 (by decide) ?_
  refine mm_iload_n C (pc := 19) 3 dX12_asks_19 rfl ?_
  refine mm_bipush C (pc := 20) (v := (60 : Int32)) dX12_asks_20 (by decide) ?_
  refine mm_irem C (pc := 22) dX12_asks_22 (by decide) ?_
  replace hK := mm_bd hK; obtain ⟨h23, e23, hK⟩ := hK
  refine mm_iast C (pc := 23) dX12_asks_23 e23 ?_
  refine mm_aload_n C (pc := 24) 0 dX12_asks_24 rfl ?_
  replace hK := mm_bd hK; obtain ⟨v25, e25, hK⟩ := hK
  refine mm_getr C (pc := 25) (k := 20) inGX12 rfl (by decide) wd_2019 dX12_asks_25 e25 ?_
  refine mm_iconst C (pc := 28) (v := (3 : Int32)) dX12_asks_28 (by decide) ?_
  refine mm_iload C (pc := 29) 4 dX12_asks_29 rfl ?_
  replace hK := mm_bd hK; obtain ⟨h31, e31, hK⟩ := hK
  refine mm_iast C (pc := 31) dX12_asks_31 e31 ?_
  cases hK
  exact mm_vret C (pc := 32) rfl dX12_asks_32 rfl rfl
