def F_X4_isAnyLineTwice_30 (k2 : Option Nat → Int32 → Int32 → MH → Option (Int32 × MH)) (l0 : Option Nat) (l1 : Int32) (l2 : Int32) (h : MH) : Option (Int32 × MH) := k2 l0 l1 (l2 + (1 : Int32)) h
set_option maxRecDepth 20000 in
set_option maxHeartbeats 4000000 in
theorem w_X4_isAnyLineTwice_30 {d : Nat} {V : Nat → List (Nat × Value) → List Value → MH → Prop} {r : Int32} {hz : MH} {k2 : Option Nat → Int32 → Int32 → MH → Option (Int32 × MH)} (hd : 1 ≤ d) (C : mm_C d yX4_isAnyLineTwice cX4_isAnyLineTwice 3 (some .boolean) (.inr (some (.int r))) hz V) (q2 : ∀ (x0 : Option Nat) (x1 : Int32) (x2 : Int32) (h : MH), k2 x0 x1 x2 h = some (r, hz) → V 2 [(0, va_rf x0), (1, .int x1), (2, .int x2)] [] h) (l0 : Option Nat) (l1 : Int32) (l2 : Int32) (h : MH) (hK : F_X4_isAnyLineTwice_30 k2 l0 l1 l2 h = some (r, hz)) : V 30 [(0, va_rf l0), (1, .int l1), (2, .int l2)] [] h := by
  unfold F_X4_isAnyLineTwice_30 at hK
  refine mm_iinc C (pc := 30) (v := (l2 + (1 : Int32))) (lv' := [(2, .int (l2 + (1 : Int32))), (0, va_rf l0), (1, .int l1)]) 2 dX4_isAnyLineTwice_30 rfl rfl (by decide) rfl ?_
  refine mm_goto C (pc := 33) (tgt := 2) dX4_isAnyLineTwice_33 (by decide) ?_
  refine mm_sub C [1, 2, 0] rfl ?_
  exact q2 _ _ _ _ hK
def F_X4_isAnyLineTwice_2 : Nat → Option Nat → Int32 → Int32 → MH → Option (Int32 × MH)
  | 0 => fun _ _ _ _ => none
  | n + 1 => fun l0 l1 l2 h => if (10 : Int32) ≤ l2 then (rZ (0 : Int32) h) else (if ((l1 >>> (l2 &&& 31)) &&& (1 : Int32)) = (1 : Int32) then ((gR h l0 4 4).bind fun v18 => (aI h v18 0 l2).bind fun v22 => if (v22 &&& l1) = 0 then (F_X4_isAnyLineTwice_30 (F_X4_isAnyLineTwice_2 n) l0 l1 l2 h) else (rZ (1 : Int32) h)) else (F_X4_isAnyLineTwice_30 (F_X4_isAnyLineTwice_2 n) l0 l1 l2 h))
set_option maxRecDepth 20000 in
set_option maxHeartbeats 4000000 in
theorem w_X4_isAnyLineTwice_2 {d : Nat} {V : Nat → List (Nat × Value) → List Value → MH → Prop} {r : Int32} {hz : MH} (hd : 1 ≤ d) (C : mm_C d yX4_isAnyLineTwice cX4_isAnyLineTwice 3 (some .boolean) (.inr (some (.int r))) hz V) : ∀ (n : Nat) (l0 : Option Nat) (l1 : Int32) (l2 : Int32) (h : MH), F_X4_isAnyLineTwice_2 n l0 l1 l2 h = some (r, hz) → V 2 [(0, va_rf l0), (1, .int l1), (2, .int l2)] [] h := by
  intro n
  induction n with
  | zero => intro l0 l1 l2 h hK; cases hK
  | succ n ih =>
    intro l0 l1 l2 h hK
    replace hK : (if (10 : Int32) ≤ l2 then (rZ (0 : Int32) h) else (if ((l1 >>> (l2 &&& 31)) &&& (1 : Int32)) = (1 : Int32) then ((gR h l0 4 4).bind fun v18 => (aI h v18 0 l2).bind fun v22 => if (v22 &&& l1) = 0 then (F_X4_isAnyLineTwice_30 (F_X4_isAnyLineTwice_2 n) l0 l1 l2 h) else (rZ (1 : Int32) h)) else (F_X4_isAnyLineTwice_30 (F_X4_isAnyLineTwice_2 n) l0 l1 l2 h))) = some (r, hz) := hK
    refine mm_iload_n C (pc := 2) 2 dX4_isAnyLineTwice_2 rfl ?_
    refine mm_bipush C (pc := 3) (v := (10 : Int32)) dX4_isAnyLineTwice_3 (by decide) ?_
    refine mm_icmp_ge C (pc := 5) (tgt := 36) dX4_isAnyLineTwice_5 (by decide) (fun hc => ?_) (fun hc => ?_)
    · replace hK := mm_ip hc hK
      refine mm_iconst C (pc := 36) (v := (0 : Int32)) dX4_isAnyLineTwice_36 (by decide) ?_
      replace hK := rZ_some hK; obtain ⟨hv37, hK⟩ := hK
      cases hK
      exact mm_zret C (pc := 37) rfl (mm_nrZ hv37) dX4_isAnyLineTwice_37 rfl rfl
    · replace hK := mm_in hc hK
      refine mm_iload_n C (pc := 8) 1 dX4_isAnyLineTwice_8 rfl ?_
      refine mm_iload_n C (pc := 9) 2 dX4_isAnyLineTwice_9 rfl ?_
      refine mm_ishr C (pc := 10) dX4_isAnyLineTwice_10 ?_
      refine mm_iconst C (pc := 11) (v := (1 : Int32)) dX4_isAnyLineTwice_11 (by decide) ?_
      refine mm_iand C (pc := 12) dX4_isAnyLineTwice_12 ?_
      refine mm_iconst C (pc := 13) (v := (1 : Int32)) dX4_isAnyLineTwice_13 (by decide) ?_
      refine mm_icmp_ne C (pc := 14) (tgt := 30) dX4_isAnyLineTwice_14 (by decide) (fun hc => ?_) (fun hc => ?_)
      · replace hK := mm_in hc hK
        exact w_X4_isAnyLineTwice_30 hd C (fun z0 z1 z2 z3 hK => ih z0 z1 z2 z3 hK) _ _ _ _ hK
      · replace hK := mm_ip hc hK
        refine mm_aload_n C (pc := 17) 0 dX4_isAnyLineTwice_17 rfl ?_
        replace hK := mm_bd hK; obtain ⟨v18, e18, hK⟩ := hK
        refine mm_getr C (pc := 18) (k := 4) inGX4 rfl (by decide) wd_241 dX4_isAnyLineTwice_18 e18 ?_
        refine mm_iload_n C (pc := 21) 2 dX4_isAnyLineTwice_21 rfl ?_
        replace hK := mm_bd hK; obtain ⟨v22, e22, hK⟩ := hK
        refine mm_iald C (pc := 22) dX4_isAnyLineTwice_22 e22 ?_
        refine mm_iload_n C (pc := 23) 1 dX4_isAnyLineTwice_23 rfl ?_
        refine mm_iand C (pc := 24) dX4_isAnyLineTwice_24 ?_
        refine mm_if_eq C (pc := 25) (tgt := 30) dX4_isAnyLineTwice_25 (by decide) (fun hc => ?_) (fun hc => ?_)
        · replace hK := mm_ip hc hK
          exact w_X4_isAnyLineTwice_30 hd C (fun z0 z1 z2 z3 hK => ih z0 z1 z2 z3 hK) _ _ _ _ hK
        · replace hK := mm_in hc hK
          refine mm_iconst C (pc := 28) (v := (1 : Int32)) dX4_isAnyLineTwice_28 (by decide) ?_
          replace hK := rZ_some hK; obtain ⟨hv29, hK⟩ := hK
          cases hK
          exact mm_zret C (pc := 29) rfl (mm_nrZ hv29) dX4_isAnyLineTwice_29 rfl rfl
def F_X4_isAnyLineTwice (a0 : Option Nat) (a1 : Int32) (h : MH) : Option (Int32 × MH) := F_X4_isAnyLineTwice_2 mm_N a0 a1 (0 : Int32) h
set_option maxRecDepth 20000 in
set_option maxHeartbeats 4000000 in
theorem S_X4_isAnyLineTwice {d : Nat} (hd : 1 ≤ d) {a0 : Option Nat} {a1 : Int32} {h : MH} {r : Int32} {hz : MH} (hK : F_X4_isAnyLineTwice a0 a1 h = some (r, hz)) : mm_M yX4_isAnyLineTwice cX4_isAnyLineTwice 3 (some .boolean) d [va_rf a0, .int a1] h (.inr (some (.int r))) hz := by
  refine mm_ofV (by decide +kernel) (by simp [lg_sl, mm_crf, mm_cti, mm_ctl]) (fun V C => ?_)
  rw [show lv_args 0 [va_rf a0, .int a1] = [(0, va_rf a0), (1, .int a1)] by simp [lv_args, mm_crf, mm_cti, mm_ctl]]
  unfold F_X4_isAnyLineTwice at hK
  refine mm_iconst C (pc := 0) (v := (0 : Int32)) dX4_isAnyLineTwice_0 (by decide) ?_
  refine mm_istore_n C (pc := 1) (i := 2) (lv' := [(2, .int (0 : Int32)), (0, va_rf a0), (1, .int a1)]) dX4_isAnyLineTwice_1 rfl (by decide) rfl ?_
  refine mm_sub C [1, 2, 0] rfl ?_
  exact w_X4_isAnyLineTwice_2 hd C _ _ _ _ _ hK
theorem wd_1727 : Cond.code yX4_fits cX4_fits 4 (some .boolean) ∈ lw_good := mm_wd 1727 (by decide +kernel) (by decide +kernel)
theorem tT_X4_fits : mm_T yX4_fits cX4_fits 4 (some .boolean) 2 := ⟨wd_1727, wd_144, by decide +kernel, by decide +kernel, by decide +kernel, by decide +kernel⟩
theorem wd_1724 : Cond.methodLink RX4 121 yX4_fits ∈ lw_good := mm_wd 1724 (by decide +kernel) (by decide +kernel)
theorem wd_1726 : Cond.instanceMethod yX4_fits ∈ lw_good := mm_wd 1726 (by decide +kernel) (by decide +kernel)
theorem wd_49 : Cond.selects RX4 yX4_fits yX4_fits ∈ lw_good := mm_wd 49 (by decide +kernel) (by decide +kernel)
abbrev PT_X4_fits : Type := (Option Nat → Int32 → Int32 → MH → Option (Int32 × MH))
def PH_X4_fits (p : PT_X4_fits) (d0 : Nat) : Prop := (∀ d : Nat, d0 ≤ d → ∀ {a0 : Option Nat} {a1 : Int32} {a2 : Int32} {h : MH} {r : Int32} {hz : MH}, p a0 a1 a2 h = some (r, hz) → mm_M yX4_fits cX4_fits 4 (some .boolean) d [va_rf a0, .int a1, .int a2] h (.inr (some (.int r))) hz)
def F_X4_fits_16 (p : PT_X4_fits) (h : MH) : Option (Int32 × MH) := rZ (1 : Int32) h
set_option maxRecDepth 20000 in
set_option maxHeartbeats 4000000 in
theorem w_X4_fits_16 {d : Nat} {V : Nat → List (Nat × Value) → List Value → MH → Prop} {r : Int32} {hz : MH} {p : PT_X4_fits} {d0 : Nat} (hd0 : d0 + 1 ≤ d) (hp : PH_X4_fits p d0) (hd : 1 ≤ d) (C : mm_C d yX4_fits cX4_fits 4 (some .boolean) (.inr (some (.int r))) hz V) (h : MH) (hK : F_X4_fits_16 p  h = some (r, hz)) : V 16 [] [] h := by
  unfold F_X4_fits_16 at hK
  refine mm_iconst C (pc := 16) (v := (1 : Int32)) dX4_fits_16 (by decide) ?_
  replace hK := rZ_some hK; obtain ⟨hv17, hK⟩ := hK
  cases hK
  exact mm_zret C (pc := 17) rfl (mm_nrZ hv17) dX4_fits_17 rfl rfl
def F_X4_fits_125 (p : PT_X4_fits) (h : MH) : Option (Int32 × MH) := rZ (0 : Int32) h
set_option maxRecDepth 20000 in
set_option maxHeartbeats 4000000 in
theorem w_X4_fits_125 {d : Nat} {V : Nat → List (Nat × Value) → List Value → MH → Prop} {r : Int32} {hz : MH} {p : PT_X4_fits} {d0 : Nat} (hd0 : d0 + 1 ≤ d) (hp : PH_X4_fits p d0) (hd : 1 ≤ d) (C : mm_C d yX4_fits cX4_fits 4 (some .boolean) (.inr (some (.int r))) hz V) (h : MH) (hK : F_X4_fits_125 p  h = some (r, hz)) : V 125 [] [] h := by
  unfold F_X4_fits_125 at hK
  refine mm_iconst C (pc := 125) (v := (0 : Int32)) dX4_fits_125 (by decide) ?_
  replace hK := rZ_some hK; obtain ⟨hv126, hK⟩ := hK
  cases hK
  exact mm_zret C (pc := 126) rfl (mm_nrZ hv126) dX4_fits_126 rfl rfl
def F_X4_fits_119 (p : PT_X4_fits) (k37 : Option Nat → Int32 → Int32 → Int32 → MH → Option (Int32 × MH)) (l0 : Option Nat) (l1 : Int32) (l2 : Int32) (l3 : Int32) (h : MH) : Option (Int32 × MH) := k37 l0 l1 l2 (l3 + (1 : Int32)) h
set_option maxRecDepth 20000 in
set_option maxHeartbeats 4000000 in
theorem w_X4_fits_119 {d : Nat} {V : Nat → List (Nat × Value) → List Value → MH → Prop} {r : Int32} {hz : MH} {p : PT_X4_fits} {d0 : Nat} (hd0 : d0 + 1 ≤ d) (hp : PH_X4_fits p d0) {k37 : Option Nat → Int32 → Int32 → Int32 → MH → Option (Int32 × MH)} (hd : 1 ≤ d) (C : mm_C d yX4_fits cX4_fits 4 (some .boolean) (.inr (some (.int r))) hz V) (q37 : ∀ (x0 : Option Nat) (x1 : Int32) (x2 : Int32) (x3 : Int32) (h : MH), k37 x0 x1 x2 x3 h = some (r, hz) → V 37 [(0, va_rf x0), (1, .int x1), (2, .int x2), (3, .int x3)] [] h) (l0 : Option Nat) (l1 : Int32) (l2 : Int32) (l3 : Int32) (h : MH) (hK : F_X4_fits_119 p k37 l0 l1 l2 l3 h = some (r, hz)) : V 119 [(0, va_rf l0), (1, .int l1), (2, .int l2), (3, .int l3)] [] h := by
  unfold F_X4_fits_119 at hK
  refine mm_iinc C (pc := 119) (v := (l3 + (1 : Int32))) (lv' := [(3, .int (l3 + (1 : Int32))), (0, va_rf l0), (1, .int l1), (2, .int l2)]) 3 dX4_fits_119 rfl rfl (by decide) rfl ?_
  refine mm_goto C (pc := 122) (tgt := 37) dX4_fits_122 (by decide) ?_
  refine mm_sub C [1, 2, 3, 0] rfl ?_
  exact q37 _ _ _ _ _ hK
def F_X4_fits_37 (p : PT_X4_fits) : Nat → Option Nat → Int32 → Int32 → Int32 → MH → Option (Int32 × MH)
  | 0 => fun _ _ _ _ _ => none
  | n + 1 => fun l0 l1 l2 l3 h => (gI h l0 4 5).bind fun v39 => if v39 ≤ l3 then (F_X4_fits_125 p h) else (if (3 : Int32) ≤ l3 then (F_X4_fits_125 p h) else ((gR h l0 4 1).bind fun v51 => (aI h v51 0 l3).bind fun v55 => if ((v55 >>> (l2 &&& 31)) &&& (1 : Int32)) = (1 : Int32) then ((gR h l0 4 2).bind fun v65 => (aI h v65 0 l3).bind fun v69 => (gR h l0 4 3).bind fun v71 => (aI h v71 0 l2).bind fun v75 => if (v69 &&& v75) = 0 then ((gR h l0 4 2).bind fun v81 => (aI h v81 0 l3).bind fun v86 => (sI h v81 0 l3 (v86 ||| ((1 : Int32) <<< (l2 &&& 31)))).bind fun h91 => mm_b2 (cV h91 l0 4 (p l0 l1 (l2 + (1 : Int32)) h91)) fun v97 h97 => if v97 = 0 then ((gR h97 l0 4 2).bind fun v106 => (aI h97 v106 0 l3).bind fun v111 => (sI h97 v106 0 l3 (v111 &&& (((1 : Int32) <<< (l2 &&& 31)) ^^^ ((-1) : Int32)))).bind fun h118 => F_X4_fits_119 p (F_X4_fits_37 p n) l0 l1 l2 l3 h118) else (rZ (1 : Int32) h97)) else (F_X4_fits_119 p (F_X4_fits_37 p n) l0 l1 l2 l3 h)) else (F_X4_fits_119 p (F_X4_fits_37 p n) l0 l1 l2 l3 h)))
set_option maxRecDepth 20000 in
set_option maxHeartbeats 4000000 in
theorem w_X4_fits_37 {d : Nat} {V : Nat → List (Nat × Value) → List Value → MH → Prop} {r : Int32} {hz : MH} {p : PT_X4_fits} {d0 : Nat} (hd0 : d0 + 1 ≤ d) (hp : PH_X4_fits p d0) (hd : 1 ≤ d) (C : mm_C d yX4_fits cX4_fits 4 (some .boolean) (.inr (some (.int r))) hz V) : ∀ (n : Nat) (l0 : Option Nat) (l1 : Int32) (l2 : Int32) (l3 : Int32) (h : MH), F_X4_fits_37 p n l0 l1 l2 l3 h = some (r, hz) → V 37 [(0, va_rf l0), (1, .int l1), (2, .int l2), (3, .int l3)] [] h := by
  intro n
  induction n with
  | zero => intro l0 l1 l2 l3 h hK; cases hK
  | succ n ih =>
    intro l0 l1 l2 l3 h hK
    replace hK : ((gI h l0 4 5).bind fun v39 => if v39 ≤ l3 then (F_X4_fits_125 p h) else (if (3 : Int32) ≤ l3 then (F_X4_fits_125 p h) else ((gR h l0 4 1).bind fun v51 => (aI h v51 0 l3).bind fun v55 => if ((v55 >>> (l2 &&& 31)) &&& (1 : Int32)) = (1 : Int32) then ((gR h l0 4 2).bind fun v65 => (aI h v65 0 l3).bind fun v69 => (gR h l0 4 3).bind fun v71 => (aI h v71 0 l2).bind fun v75 => if (v69 &&& v75) = 0 then ((gR h l0 4 2).bind fun v81 => (aI h v81 0 l3).bind fun v86 => (sI h v81 0 l3 (v86 ||| ((1 : Int32) <<< (l2 &&& 31)))).bind fun h91 => mm_b2 (cV h91 l0 4 (p l0 l1 (l2 + (1 : Int32)) h91)) fun v97 h97 => if v97 = 0 then ((gR h97 l0 4 2).bind fun v106 => (aI h97 v106 0 l3).bind fun v111 => (sI h97 v106 0 l3 (v111 &&& (((1 : Int32) <<< (l2 &&& 31)) ^^^ ((-1) : Int32)))).bind fun h118 => F_X4_fits_119 p (F_X4_fits_37 p n) l0 l1 l2 l3 h118) else (rZ (1 : Int32) h97)) else (F_X4_fits_119 p (F_X4_fits_37 p n) l0 l1 l2 l3 h)) else (F_X4_fits_119 p (F_X4_fits_37 p n) l0 l1 l2 l3 h)))) = some (r, hz) := hK
    refine mm_iload_n C (pc := 37) 3 dX4_fits_37 rfl ?_
    refine mm_aload_n C (pc := 38) 0 dX4_fits_38 rfl ?_
    replace hK := mm_bd hK; obtain ⟨v39, e39, hK⟩ := hK
    refine mm_geti C (pc := 39) (k := 5) inGX4 rfl (by decide) wd_242 dX4_fits_39 e39 ?_
    refine mm_icmp_ge C (pc := 42) (tgt := 125) dX4_fits_42 (by decide) (fun hc => ?_) (fun hc => ?_)
    · replace hK := mm_ip hc hK
      refine mm_sub C [] rfl ?_
      exact w_X4_fits_125 hd0 hp hd C _ hK
    · replace hK := mm_in hc hK
      refine mm_iload_n C (pc := 45) 3 dX4_fits_45 rfl ?_
      refine mm_iconst C (pc := 46) (v := (3 : Int32)) dX4_fits_46 (by decide) ?_
      refine mm_icmp_ge C (pc := 47) (tgt := 125) dX4_fits_47 (by decide) (fun hc => ?_) (fun hc => ?_)
      · replace hK := mm_ip hc hK
        refine mm_sub C [] rfl ?_
        exact w_X4_fits_125 hd0 hp hd C _ hK
      · replace hK := mm_in hc hK
        refine mm_aload_n C (pc := 50) 0 dX4_fits_50 rfl ?_
        replace hK := mm_bd hK; obtain ⟨v51, e51, hK⟩ := hK
        refine mm_getr C (pc := 51) (k := 1) inGX4 rfl (by decide) wd_238 dX4_fits_51 e51 ?_
        refine mm_iload_n C (pc := 54) 3 dX4_fits_54 rfl ?_
        replace hK := mm_bd hK; obtain ⟨v55, e55, hK⟩ := hK
        refine mm_iald C (pc := 55) dX4_fits_55 e55 ?_
        refine mm_iload_n C (pc := 56) 2 dX4_fits_56 rfl ?_
        refine mm_ishr C (pc := 57) dX4_fits_57 ?_
        refine mm_iconst C (pc := 58) (v := (1 : Int32)) dX4_fits_58 (by decide) ?_
        refine mm_iand C (pc := 59) dX4_fits_59 ?_
        refine mm_iconst C (pc := 60) (v := (1 : Int32)) dX4_fits_60 (by decide) ?_
        refine mm_icmp_ne C (pc := 61) (tgt := 119) dX4_fits_61 (by decide) (fun hc => ?_) (fun hc => ?_)
        · replace hK := mm_in hc hK
          exact w_X4_fits_119 hd0 hp hd C (fun z0 z1 z2 z3 z4 hK => ih z0 z1 z2 z3 z4 hK) _ _ _ _ _ hK
        · replace hK := mm_ip hc hK
          refine mm_aload_n C (pc := 64) 0 dX4_fits_64 rfl ?_
          replace hK := mm_bd hK; obtain ⟨v65, e65, hK⟩ := hK
          refine mm_getr C (pc := 65) (k := 2) inGX4 rfl (by decide) wd_239 dX4_fits_65 e65 ?_
          refine mm_iload_n C (pc := 68) 3 dX4_fits_68 rfl ?_
          replace hK := mm_bd hK; obtain ⟨v69, e69, hK⟩ := hK
          refine mm_iald C (pc := 69) dX4_fits_69 e69 ?_
          refine mm_aload_n C (pc := 70) 0 dX4_fits_70 rfl ?_
          replace hK := mm_bd hK; obtain ⟨v71, e71, hK⟩ := hK
          refine mm_getr C (pc := 71) (k := 3) inGX4 rfl (by decide) wd_240 dX4_fits_71 e71 ?_
          refine mm_iload_n C (pc := 74) 2 dX4_fits_74 rfl ?_
          replace hK := mm_bd hK; obtain ⟨v75, e75, hK⟩ := hK
          refine mm_iald C (pc := 75) dX4_fits_75 e75 ?_
          refine mm_iand C (pc := 76) dX4_fits_76 ?_
          refine mm_if_ne C (pc := 77) (tgt := 119) dX4_fits_77 (by decide) (fun hc => ?_) (fun hc => ?_)
          · replace hK := mm_in hc hK
            exact w_X4_fits_119 hd0 hp hd C (fun z0 z1 z2 z3 z4 hK => ih z0 z1 z2 z3 z4 hK) _ _ _ _ _ hK
          · replace hK := mm_ip hc hK
            refine mm_aload_n C (pc := 80) 0 dX4_fits_80 rfl ?_
            replace hK := mm_bd hK; obtain ⟨v81, e81, hK⟩ := hK
            refine mm_getr C (pc := 81) (k := 2) inGX4 rfl (by decide) wd_239 dX4_fits_81 e81 ?_
            refine mm_iload_n C (pc := 84) 3 dX4_fits_84 rfl ?_
            refine mm_dup2 C (pc := 85) dX4_fits_85 rfl mm_crf ?_
            replace hK := mm_bd hK; obtain ⟨v86, e86, hK⟩ := hK
            refine mm_iald C (pc := 86) dX4_fits_86 e86 ?_
            refine mm_iconst C (pc := 87) (v := (1 : Int32)) dX4_fits_87 (by decide) ?_
            refine mm_iload_n C (pc := 88) 2 dX4_fits_88 rfl ?_
            refine mm_ishl C (pc := 89) dX4_fits_89 ?_
            refine mm_ior C (pc := 90) dX4_fits_90 ?_
            replace hK := mm_bd hK; obtain ⟨h91, e91, hK⟩ := hK
            refine mm_iast C (pc := 91) dX4_fits_91 e91 ?_
            refine mm_aload_n C (pc := 92) 0 dX4_fits_92 rfl ?_
            refine mm_iload_n C (pc := 93) 1 dX4_fits_93 rfl ?_
            refine mm_iload_n C (pc := 94) 2 dX4_fits_94 rfl ?_
            refine mm_iconst C (pc := 95) (v := (1 : Int32)) dX4_fits_95 (by decide) ?_
            refine mm_iadd C (pc := 96) dX4_fits_96 ?_
            replace hK := mm_b2s hK; obtain ⟨v97, h97, e97, hK⟩ := hK
            obtain ⟨o97, e97⟩ := cV_some e97
            refine mm_callV C (pc := 97) (d1 := d0) (As := [.int l1, .int (l2 + (1 : Int32))]) (st := []) (vk := (some (.int v97))) ((hp _ (by omega) ) e97) tT_X4_fits o97 (Or.inr ⟨_, rfl, rfl⟩) wd_1724 wd_1726 wd_49 (by omega) (by decide) rfl (by simp [mm_crf, mm_cti, mm_ctl]) rfl dX4_fits_97 ?_
            show V _ _ (.int v97 :: _) _
            refine mm_if_eq C (pc := 100) (tgt := 105) dX4_fits_100 (by decide) (fun hc => ?_) (fun hc => ?_)
            · replace hK := mm_ip hc hK
              refine mm_aload_n C (pc := 105) 0 dX4_fits_105 rfl ?_
              replace hK := mm_bd hK; obtain ⟨v106, e106, hK⟩ := hK
              refine mm_getr C (pc := 106) (k := 2) inGX4 rfl (by decide) wd_239 dX4_fits_106 e106 ?_
              refine mm_iload_n C (pc := 109) 3 dX4_fits_109 rfl ?_
              refine mm_dup2 C (pc := 110) dX4_fits_110 rfl mm_crf ?_
              replace hK := mm_bd hK; obtain ⟨v111, e111, hK⟩ := hK
              refine mm_iald C (pc := 111) dX4_fits_111 e111 ?_
              refine mm_iconst C (pc := 112) (v := (1 : Int32)) dX4_fits_112 (by decide) ?_
              refine mm_iload_n C (pc := 113) 2 dX4_fits_113 rfl ?_
              refine mm_ishl C (pc := 114) dX4_fits_114 ?_
              refine mm_iconst C (pc := 115) (v := ((-1) : Int32)) dX4_fits_115 (by decide) ?_
              refine mm_ixor C (pc := 116) dX4_fits_116 ?_
              refine mm_iand C (pc := 117) dX4_fits_117 ?_
              replace hK := mm_bd hK; obtain ⟨h118, e118, hK⟩ := hK
              refine mm_iast C (pc := 118) dX4_fits_118 e118 ?_
              exact w_X4_fits_119 hd0 hp hd C (fun z0 z1 z2 z3 z4 hK => ih z0 z1 z2 z3 z4 hK) _ _ _ _ _ hK
            · replace hK := mm_in hc hK
              refine mm_iconst C (pc := 103) (v := (1 : Int32)) dX4_fits_103 (by decide) ?_
              replace hK := rZ_some hK; obtain ⟨hv104, hK⟩ := hK
              cases hK
              exact mm_zret C (pc := 104) rfl (mm_nrZ hv104) dX4_fits_104 rfl rfl
def F_X4_fits (p : PT_X4_fits) (a0 : Option Nat) (a1 : Int32) (a2 : Int32) (h : MH) : Option (Int32 × MH) := if a2 < 0 then (F_X4_fits_16 p h) else (if (10 : Int32) ≤ a2 then (F_X4_fits_16 p h) else (if (a1 >>> (a2 &&& 31)) = 0 then (F_X4_fits_16 p h) else (if ((a1 >>> (a2 &&& 31)) &&& (1 : Int32)) = 0 then (mm_b2 (cV h a0 4 (p a0 a1 (a2 + (1 : Int32)) h)) fun v31 h31 => rZ v31 h31) else (F_X4_fits_37 p mm_N a0 a1 a2 (0 : Int32) h))))
set_option maxRecDepth 20000 in
set_option maxHeartbeats 4000000 in
theorem S_X4_fits {d : Nat} {p : PT_X4_fits} {d0 : Nat} (hd0 : d0 + 1 ≤ d) (hp : PH_X4_fits p d0) (hd : 1 ≤ d) {a0 : Option Nat} {a1 : Int32} {a2 : Int32} {h : MH} {r : Int32} {hz : MH} (hK : F_X4_fits p a0 a1 a2 h = some (r, hz)) : mm_M yX4_fits cX4_fits 4 (some .boolean) d [va_rf a0, .int a1, .int a2] h (.inr (some (.int r))) hz := by
  refine mm_ofV (by decide +kernel) (by simp [lg_sl, mm_crf, mm_cti, mm_ctl]) (fun V C => ?_)
  rw [show lv_args 0 [va_rf a0, .int a1, .int a2] = [(0, va_rf a0), (1, .int a1), (2, .int a2)] by simp [lv_args, mm_crf, mm_cti, mm_ctl]]
  unfold F_X4_fits at hK
  refine mm_iload_n C (pc := 0) 2 dX4_fits_0 rfl ?_
  refine mm_if_lt C (pc := 1) (tgt := 16) dX4_fits_1 (by decide) (fun hc => ?_) (fun hc => ?_)
  · replace hK := mm_ip hc hK
    refine mm_sub C [] rfl ?_
    exact w_X4_fits_16 hd0 hp hd C _ hK
  · replace hK := mm_in hc hK
    refine mm_iload_n C (pc := 4) 2 dX4_fits_4 rfl ?_
    refine mm_bipush C (pc := 5) (v := (10 : Int32)) dX4_fits_5 (by decide) ?_
    refine mm_icmp_ge C (pc := 7) (tgt := 16) dX4_fits_7 (by decide) (fun hc => ?_) (fun hc => ?_)
    · replace hK := mm_ip hc hK
      refine mm_sub C [] rfl ?_
      exact w_X4_fits_16 hd0 hp hd C _ hK
    · replace hK := mm_in hc hK
      refine mm_iload_n C (pc := 10) 1 dX4_fits_10 rfl ?_
      refine mm_iload_n C (pc := 11) 2 dX4_fits_11 rfl ?_
      refine mm_ishr C (pc := 12) dX4_fits_12 ?_
      refine mm_if_ne C (pc := 13) (tgt := 18) dX4_fits_13 (by decide) (fun hc => ?_) (fun hc => ?_)
      · replace hK := mm_in hc hK
        refine mm_iload_n C (pc := 18) 1 dX4_fits_18 rfl ?_
        refine mm_iload_n C (pc := 19) 2 dX4_fits_19 rfl ?_
        refine mm_ishr C (pc := 20) dX4_fits_20 ?_
        refine mm_iconst C (pc := 21) (v := (1 : Int32)) dX4_fits_21 (by decide) ?_
        refine mm_iand C (pc := 22) dX4_fits_22 ?_
        refine mm_if_ne C (pc := 23) (tgt := 35) dX4_fits_23 (by decide) (fun hc => ?_) (fun hc => ?_)
        · replace hK := mm_in hc hK
          refine mm_iconst C (pc := 35) (v := (0 : Int32)) dX4_fits_35 (by decide) ?_
          refine mm_istore_n C (pc := 36) (i := 3) (lv' := [(3, .int (0 : Int32)), (0, va_rf a0), (1, .int a1), (2, .int a2)]) dX4_fits_36 rfl (by decide) rfl ?_
          refine mm_sub C [1, 2, 3, 0] rfl ?_
          exact w_X4_fits_37 hd0 hp hd C _ _ _ _ _ _ hK
        · replace hK := mm_ip hc hK
          refine mm_aload_n C (pc := 26) 0 dX4_fits_26 rfl ?_
          refine mm_iload_n C (pc := 27) 1 dX4_fits_27 rfl ?_
          refine mm_iload_n C (pc := 28) 2 dX4_fits_28 rfl ?_
          refine mm_iconst C (pc := 29) (v := (1 : Int32)) dX4_fits_29 (by decide) ?_
          refine mm_iadd C (pc := 30) dX4_fits_30 ?_
          replace hK := mm_b2s hK; obtain ⟨v31, h31, e31, hK⟩ := hK
          obtain ⟨o31, e31⟩ := cV_some e31
          refine mm_callV C (pc := 31) (d1 := d0) (As := [.int a1, .int (a2 + (1 : Int32))]) (st := []) (vk := (some (.int v31))) ((hp _ (by omega) ) e31) tT_X4_fits o31 (Or.inr ⟨_, rfl, rfl⟩) wd_1724 wd_1726 wd_49 (by omega) (by decide) rfl (by simp [mm_crf, mm_cti, mm_ctl]) rfl dX4_fits_31 ?_
          show V _ _ (.int v31 :: _) _
          replace hK := rZ_some hK; obtain ⟨hv34, hK⟩ := hK
          cases hK
          exact mm_zret C (pc := 34) rfl (mm_nrZ hv34) dX4_fits_34 rfl rfl
      · replace hK := mm_ip hc hK
        refine mm_sub C [] rfl ?_
        exact w_X4_fits_16 hd0 hp hd C _ hK
def G_X4_fits : Nat → PT_X4_fits
  | 0 => ((fun _ _ _ _ => none))
  | n + 1 => ((fun a0 a1 a2 h => F_X4_fits (G_X4_fits n) a0 a1 a2 h))
theorem S_G_X4_fits : ∀ n : Nat, PH_X4_fits (G_X4_fits n) (1 + n) := by
  intro n
  induction n with
  | zero => exact (fun d hd _ _ _ _ _ _ hK => (by cases hK))
  | succ n ih => exact (fun d hd _ _ _ _ _ _ hK => S_X4_fits (p := G_X4_fits n) (d0 := 1 + n) (by omega) ih (by omega) hK)
theorem wd_1691 : Cond.methodLink RX4 50 yJ9_min_7cf53 ∈ lw_good := mm_wd 1691 (by decide +kernel) (by decide +kernel)
theorem wd_1718 : Cond.methodLink RX4 106 yJ6_bitCount_0f7a4 ∈ lw_good := mm_wd 1718 (by decide +kernel) (by decide +kernel)
theorem wd_1722 : Cond.code yX4_isAnyLineTwice cX4_isAnyLineTwice 3 (some .boolean) ∈ lw_good := mm_wd 1722 (by decide +kernel) (by decide +kernel)
theorem tT_X4_isAnyLineTwice : mm_T yX4_isAnyLineTwice cX4_isAnyLineTwice 3 (some .boolean) 1 := ⟨wd_1722, wd_144, by decide +kernel, by decide +kernel, by decide +kernel, by decide +kernel⟩
theorem wd_1719 : Cond.methodLink RX4 111 yX4_isAnyLineTwice ∈ lw_good := mm_wd 1719 (by decide +kernel) (by decide +kernel)
theorem wd_1721 : Cond.instanceMethod yX4_isAnyLineTwice ∈ lw_good := mm_wd 1721 (by decide +kernel) (by decide +kernel)
theorem wd_48 : Cond.selects RX4 yX4_isAnyLineTwice yX4_isAnyLineTwice ∈ lw_good := mm_wd 48 (by decide +kernel) (by decide +kernel)
theorem wd_1723 : Cond.methodLink RX4 115 yJ7_fill_53178 ∈ lw_good := mm_wd 1723 (by decide +kernel) (by decide +kernel)
theorem wd_1716 : Cond.code yX4_findOthers cX4_findOthers 12 none ∈ lw_good := mm_wd 1716 (by decide +kernel) (by decide +kernel)
theorem tT_X4_findOthers : mm_T yX4_findOthers cX4_findOthers 12 none 3 := ⟨wd_1716, wd_144, by decide +kernel, by decide +kernel, by decide +kernel, by decide +kernel⟩
theorem wd_1713 : Cond.methodLink RX4 102 yX4_findOthers ∈ lw_good := mm_wd 1713 (by decide +kernel) (by decide +kernel)
theorem wd_1715 : Cond.instanceMethod yX4_findOthers ∈ lw_good := mm_wd 1715 (by decide +kernel) (by decide +kernel)
theorem wd_47 : Cond.selects RX4 yX4_findOthers yX4_findOthers ∈ lw_good := mm_wd 47 (by decide +kernel) (by decide +kernel)
def F_X4_seek_150 (k79 : Option Nat → Int32 → Int32 → Int32 → MH → Option MH) (l0 : Option Nat) (l2 : Int32) (l3 : Int32) (l4 : Int32) (h : MH) : Option MH := k79 l0 l2 l3 (l4 + (1 : Int32)) h
set_option maxRecDepth 20000 in
set_option maxHeartbeats 4000000 in
theorem w_X4_seek_150 {d : Nat} {V : Nat → List (Nat × Value) → List Value → MH → Prop} {hz : MH} {k79 : Option Nat → Int32 → Int32 → Int32 → MH → Option MH} (hd : 66 ≤ d) (C : mm_C d yX4_seek cX4_seek 5 none (.inr none) hz V) (q79 : ∀ (x0 : Option Nat) (x1 : Int32) (x2 : Int32) (x3 : Int32) (h : MH), k79 x0 x1 x2 x3 h = some hz → V 79 [(0, va_rf x0), (2, .int x1), (3, .int x2), (4, .int x3)] [] h) (l0 : Option Nat) (l2 : Int32) (l3 : Int32) (l4 : Int32) (h : MH) (hK : F_X4_seek_150 k79 l0 l2 l3 l4 h = some hz) : V 150 [(0, va_rf l0), (2, .int l2), (3, .int l3), (4, .int l4)] [] h := by
  unfold F_X4_seek_150 at hK
  refine mm_iinc C (pc := 150) (v := (l4 + (1 : Int32))) (lv' := [(4, .int (l4 + (1 : Int32))), (0, va_rf l0), (2, .int l2), (3, .int l3)]) 3 dX4_seek_150 rfl rfl (by decide) rfl ?_
  refine mm_goto C (pc := 153) (tgt := 79) dX4_seek_153 (by decide) ?_
  refine mm_sub C [1, 2, 3, 0] rfl ?_
  exact q79 _ _ _ _ _ hK
def F_X4_seek_79 : Nat → Option Nat → Int32 → Int32 → Int32 → MH → Option MH
  | 0 => fun _ _ _ _ _ => none
  | n + 1 => fun l0 l2 l3 l4 h => if ((1 : Int32) <<< (l2 &&& 31)) ≤ l4 then (some h) else (if (l4 &&& (l3 ^^^ ((-1) : Int32))) = 0 then (mm_b2 (F_J6_bitCount_0f7a4 l4 h) fun v98 h98 => (gI h98 l0 4 6).bind fun v102 => if v98 ≤ v102 then (F_X4_seek_150 (F_X4_seek_79 n) l0 l2 l3 l4 h98) else (mm_b2 (cV h98 l0 4 (F_X4_isAnyLineTwice l0 l4 h98)) fun v111 h111 => if v111 = 0 then ((gR h111 l0 4 2).bind fun v118 => (F_J7_fill_53178 v118 (0 : Int32) h111).bind fun h122 => mm_b2 (cV h122 l0 4 ((G_X4_fits 64) l0 l4 (0 : Int32) h122)) fun v129 h129 => if v129 = 0 then (F_X4_seek_150 (F_X4_seek_79 n) l0 l2 l3 l4 h129) else (mm_b2 (F_J6_bitCount_0f7a4 l4 h129) fun v138 h138 => (pI h138 l0 4 6 v138).bind fun h141 => (pI h141 l0 4 7 l4).bind fun h147 => F_X4_seek_150 (F_X4_seek_79 n) l0 l2 l3 l4 h147)) else (F_X4_seek_150 (F_X4_seek_79 n) l0 l2 l3 l4 h111))) else (F_X4_seek_150 (F_X4_seek_79 n) l0 l2 l3 l4 h))
set_option maxRecDepth 20000 in
set_option maxHeartbeats 4000000 in
theorem w_X4_seek_79 {d : Nat} {V : Nat → List (Nat × Value) → List Value → MH → Prop} {hz : MH} (hd : 66 ≤ d) (C : mm_C d yX4_seek cX4_seek 5 none (.inr none) hz V) : ∀ (n : Nat) (l0 : Option Nat) (l2 : Int32) (l3 : Int32) (l4 : Int32) (h : MH), F_X4_seek_79 n l0 l2 l3 l4 h = some hz → V 79 [(0, va_rf l0), (2, .int l2), (3, .int l3), (4, .int l4)] [] h := by
  intro n
  induction n with
  | zero => intro l0 l2 l3 l4 h hK; cases hK
  | succ n ih =>
    intro l0 l2 l3 l4 h hK
    replace hK : (if ((1 : Int32) <<< (l2 &&& 31)) ≤ l4 then (some h) else (if (l4 &&& (l3 ^^^ ((-1) : Int32))) = 0 then (mm_b2 (F_J6_bitCount_0f7a4 l4 h) fun v98 h98 => (gI h98 l0 4 6).bind fun v102 => if v98 ≤ v102 then (F_X4_seek_150 (F_X4_seek_79 n) l0 l2 l3 l4 h98) else (mm_b2 (cV h98 l0 4 (F_X4_isAnyLineTwice l0 l4 h98)) fun v111 h111 => if v111 = 0 then ((gR h111 l0 4 2).bind fun v118 => (F_J7_fill_53178 v118 (0 : Int32) h111).bind fun h122 => mm_b2 (cV h122 l0 4 ((G_X4_fits 64) l0 l4 (0 : Int32) h122)) fun v129 h129 => if v129 = 0 then (F_X4_seek_150 (F_X4_seek_79 n) l0 l2 l3 l4 h129) else (mm_b2 (F_J6_bitCount_0f7a4 l4 h129) fun v138 h138 => (pI h138 l0 4 6 v138).bind fun h141 => (pI h141 l0 4 7 l4).bind fun h147 => F_X4_seek_150 (F_X4_seek_79 n) l0 l2 l3 l4 h147)) else (F_X4_seek_150 (F_X4_seek_79 n) l0 l2 l3 l4 h111))) else (F_X4_seek_150 (F_X4_seek_79 n) l0 l2 l3 l4 h))) = some hz := hK
    refine mm_iload C (pc := 79) 3 dX4_seek_79 rfl ?_
    refine mm_iconst C (pc := 81) (v := (1 : Int32)) dX4_seek_81 (by decide) ?_
    refine mm_iload_n C (pc := 82) 1 dX4_seek_82 rfl ?_
    refine mm_ishl C (pc := 83) dX4_seek_83 ?_
    refine mm_icmp_ge C (pc := 84) (tgt := 156) dX4_seek_84 (by decide) (fun hc => ?_) (fun hc => ?_)
    · replace hK := mm_ip hc hK
      cases hK
      exact mm_vret C (pc := 156) rfl dX4_seek_156 rfl rfl
    · replace hK := mm_in hc hK
      refine mm_iload C (pc := 87) 3 dX4_seek_87 rfl ?_
      refine mm_iload_n C (pc := 89) 2 dX4_seek_89 rfl ?_
      refine mm_iconst C (pc := 90) (v := ((-1) : Int32)) dX4_seek_90 (by decide) ?_
      refine mm_ixor C (pc := 91) dX4_seek_91 ?_
      refine mm_iand C (pc := 92) dX4_seek_92 ?_
      refine mm_if_ne C (pc := 93) (tgt := 150) dX4_seek_93 (by decide) (fun hc => ?_) (fun hc => ?_)
      · replace hK := mm_in hc hK
        exact w_X4_seek_150 hd C (fun z0 z1 z2 z3 z4 hK => ih z0 z1 z2 z3 z4 hK) _ _ _ _ _ hK
      · replace hK := mm_ip hc hK
        refine mm_iload C (pc := 96) 3 dX4_seek_96 rfl ?_
        replace hK := mm_b2s hK; obtain ⟨v98, h98, e98, hK⟩ := hK
        refine mm_callS C (pc := 98) (d1 := 1) (As := [.int l4]) (st := []) (vk := (some (.int v98))) ((S_J6_bitCount_0f7a4 (by omega)) e98) tT_J6_bitCount_0f7a4 wd_1718 wd_1083 (by omega) (by decide) rfl (by simp [mm_crf, mm_cti, mm_ctl]) rfl dX4_seek_98 ?_
        show V _ _ (.int v98 :: _) _
        refine mm_aload_n C (pc := 101) 0 dX4_seek_101 rfl ?_
        replace hK := mm_bd hK; obtain ⟨v102, e102, hK⟩ := hK
        refine mm_geti C (pc := 102) (k := 6) inGX4 rfl (by decide) wd_243 dX4_seek_102 e102 ?_
        refine mm_icmp_le C (pc := 105) (tgt := 150) dX4_seek_105 (by decide) (fun hc => ?_) (fun hc => ?_)
        · replace hK := mm_ip hc hK
          exact w_X4_seek_150 hd C (fun z0 z1 z2 z3 z4 hK => ih z0 z1 z2 z3 z4 hK) _ _ _ _ _ hK
        · replace hK := mm_in hc hK
          refine mm_aload_n C (pc := 108) 0 dX4_seek_108 rfl ?_
          refine mm_iload C (pc := 109) 3 dX4_seek_109 rfl ?_
          replace hK := mm_b2s hK; obtain ⟨v111, h111, e111, hK⟩ := hK
          obtain ⟨o111, e111⟩ := cV_some e111
          refine mm_callV C (pc := 111) (d1 := 1) (As := [.int l4]) (st := []) (vk := (some (.int v111))) ((S_X4_isAnyLineTwice (by omega)) e111) tT_X4_isAnyLineTwice o111 (Or.inr ⟨_, rfl, rfl⟩) wd_1719 wd_1721 wd_48 (by omega) (by decide) rfl (by simp [mm_crf, mm_cti, mm_ctl]) rfl dX4_seek_111 ?_
          show V _ _ (.int v111 :: _) _
          refine mm_if_ne C (pc := 114) (tgt := 150) dX4_seek_114 (by decide) (fun hc => ?_) (fun hc => ?_)
          · replace hK := mm_in hc hK
            exact w_X4_seek_150 hd C (fun z0 z1 z2 z3 z4 hK => ih z0 z1 z2 z3 z4 hK) _ _ _ _ _ hK
          · replace hK := mm_ip hc hK
            refine mm_aload_n C (pc := 117) 0 dX4_seek_117 rfl ?_
            replace hK := mm_bd hK; obtain ⟨v118, e118, hK⟩ := hK
            refine mm_getr C (pc := 118) (k := 2) inGX4 rfl (by decide) wd_239 dX4_seek_118 e118 ?_
            refine mm_iconst C (pc := 121) (v := (0 : Int32)) dX4_seek_121 (by decide) ?_
            replace hK := mm_bd hK; obtain ⟨h122, e122, hK⟩ := hK
            refine mm_callS C (pc := 122) (d1 := 1) (As := [va_rf v118, .int (0 : Int32)]) (st := []) (vk := none) ((S_J7_fill_53178 (by omega)) e122) tT_J7_fill_53178 wd_1723 wd_814 (by omega) (by decide) rfl (by simp [mm_crf, mm_cti, mm_ctl]) rfl dX4_seek_122 ?_
            show V _ _ [] _
            refine mm_aload_n C (pc := 125) 0 dX4_seek_125 rfl ?_
            refine mm_iload C (pc := 126) 3 dX4_seek_126 rfl ?_
            refine mm_iconst C (pc := 128) (v := (0 : Int32)) dX4_seek_128 (by decide) ?_
            replace hK := mm_b2s hK; obtain ⟨v129, h129, e129, hK⟩ := hK
            obtain ⟨o129, e129⟩ := cV_some e129
            refine mm_callV C (pc := 129) (d1 := 65) (As := [.int l4, .int (0 : Int32)]) (st := []) (vk := (some (.int v129))) (((S_G_X4_fits 64) _ (by omega)) e129) tT_X4_fits o129 (Or.inr ⟨_, rfl, rfl⟩) wd_1724 wd_1726 wd_49 (by omega) (by decide) rfl (by simp [mm_crf, mm_cti, mm_ctl]) rfl dX4_seek_129 ?_
            show V _ _ (.int v129 :: _) _
            refine mm_if_eq C (pc := 132) (tgt := 150) dX4_seek_132 (by decide) (fun hc => ?_) (fun hc => ?_)
            · replace hK := mm_ip hc hK
              exact w_X4_seek_150 hd C (fun z0 z1 z2 z3 z4 hK => ih z0 z1 z2 z3 z4 hK) _ _ _ _ _ hK
            · replace hK := mm_in hc hK
              refine mm_aload_n C (pc := 135) 0 dX4_seek_135 rfl ?_
              refine mm_iload C (pc := 136) 3 dX4_seek_136 rfl ?_
              replace hK := mm_b2s hK; obtain ⟨v138, h138, e138, hK⟩ := hK
              refine mm_callS C (pc := 138) (d1 := 1) (As := [.int l4]) (st := [va_rf l0]) (vk := (some (.int v138))) ((S_J6_bitCount_0f7a4 (by omega)) e138) tT_J6_bitCount_0f7a4 wd_1718 wd_1083 (by omega) (by decide) rfl (by simp [mm_crf, mm_cti, mm_ctl]) rfl dX4_seek_138 ?_
              show V _ _ (.int v138 :: _) _
              replace hK := mm_bd hK; obtain ⟨h141, e141, hK⟩ := hK
              refine mm_puti C (pc := 141) (k := 6) false (fun z => by cases z) inGX4 tyX4 tyX4_ok nmX4 rfl (by decide) wd_243 rfl rfl dX4_seek_141 e141 ?_
              refine mm_aload_n C (pc := 144) 0 dX4_seek_144 rfl ?_
              refine mm_iload C (pc := 145) 3 dX4_seek_145 rfl ?_
              replace hK := mm_bd hK; obtain ⟨h147, e147, hK⟩ := hK
              refine mm_puti C (pc := 147) (k := 7) false (fun z => by cases z) inGX4 tyX4 tyX4_ok nmX4 rfl (by decide) wd_244 rfl rfl dX4_seek_147 e147 ?_
              exact w_X4_seek_150 hd C (fun z0 z1 z2 z3 z4 hK => ih z0 z1 z2 z3 z4 hK) _ _ _ _ _ hK
def F_X4_seek_66 (l0 : Option Nat) (l2 : Int32) (l3 : Int32) (h : MH) : Option MH := (pI h l0 4 6 (0 : Int32)).bind fun h68 => (pI h68 l0 4 7 (0 : Int32)).bind fun h73 => F_X4_seek_79 mm_N l0 l2 l3 (1 : Int32) h73
set_option maxRecDepth 20000 in
set_option maxHeartbeats 4000000 in
theorem w_X4_seek_66 {d : Nat} {V : Nat → List (Nat × Value) → List Value → MH → Prop} {hz : MH} (hd : 66 ≤ d) (C : mm_C d yX4_seek cX4_seek 5 none (.inr none) hz V) (l0 : Option Nat) (l2 : Int32) (l3 : Int32) (h : MH) (hK : F_X4_seek_66 l0 l2 l3 h = some hz) : V 66 [(0, va_rf l0), (2, .int l2), (3, .int l3)] [] h := by
  unfold F_X4_seek_66 at hK
  refine mm_aload_n C (pc := 66) 0 dX4_seek_66 rfl ?_
  refine mm_iconst C (pc := 67) (v := (0 : Int32)) dX4_seek_67 (by decide) ?_
  replace hK := mm_bd hK; obtain ⟨h68, e68, hK⟩ := hK
  refine mm_puti C (pc := 68) (k := 6) false (fun z => by cases z) inGX4 tyX4 tyX4_ok nmX4 rfl (by decide) wd_243 rfl rfl dX4_seek_68 e68 ?_
  refine mm_aload_n C (pc := 71) 0 dX4_seek_71 rfl ?_
  refine mm_iconst C (pc := 72) (v := (0 : Int32)) dX4_seek_72 (by decide) ?_
  replace hK := mm_bd hK; obtain ⟨h73, e73, hK⟩ := hK
  refine mm_puti C (pc := 73) (k := 7) false (fun z => by cases z) inGX4 tyX4 tyX4_ok nmX4 rfl (by decide) wd_244 rfl rfl dX4_seek_73 e73 ?_
  refine mm_iconst C (pc := 76) (v := (1 : Int32)) dX4_seek_76 (by decide) ?_
  refine mm_istore C (pc := 77) (i := 4) (lv' := [(4, .int (1 : Int32)), (0, va_rf l0), (2, .int l2), (3, .int l3)]) dX4_seek_77 (by decide) rfl ?_
  refine mm_sub C [1, 2, 3, 0] rfl ?_
  exact w_X4_seek_79 hd C _ _ _ _ _ _ hK
def F_X4_seek_35 : Nat → Option Nat → Int32 → Int32 → Int32 → MH → Option MH
  | 0 => fun _ _ _ _ _ => none
  | n + 1 => fun l0 l2 l3 l4 h => (gI h l0 4 5).bind fun v38 => if v38 ≤ l4 then (F_X4_seek_66 l0 l2 l3 h) else (if (3 : Int32) ≤ l4 then (F_X4_seek_66 l0 l2 l3 h) else ((gR h l0 4 1).bind fun v52 => (aI h v52 0 l4).bind fun v57 => F_X4_seek_35 n l0 l2 (l3 ||| v57) (l4 + (1 : Int32)) h))
set_option maxRecDepth 20000 in
set_option maxHeartbeats 4000000 in
theorem w_X4_seek_35 {d : Nat} {V : Nat → List (Nat × Value) → List Value → MH → Prop} {hz : MH} (hd : 66 ≤ d) (C : mm_C d yX4_seek cX4_seek 5 none (.inr none) hz V) : ∀ (n : Nat) (l0 : Option Nat) (l2 : Int32) (l3 : Int32) (l4 : Int32) (h : MH), F_X4_seek_35 n l0 l2 l3 l4 h = some hz → V 35 [(0, va_rf l0), (2, .int l2), (3, .int l3), (4, .int l4)] [] h := by
  intro n
  induction n with
  | zero => intro l0 l2 l3 l4 h hK; cases hK
  | succ n ih =>
    intro l0 l2 l3 l4 h hK
    replace hK : ((gI h l0 4 5).bind fun v38 => if v38 ≤ l4 then (F_X4_seek_66 l0 l2 l3 h) else (if (3 : Int32) ≤ l4 then (F_X4_seek_66 l0 l2 l3 h) else ((gR h l0 4 1).bind fun v52 => (aI h v52 0 l4).bind fun v57 => F_X4_seek_35 n l0 l2 (l3 ||| v57) (l4 + (1 : Int32)) h))) = some hz := hK
    refine mm_iload C (pc := 35) 3 dX4_seek_35 rfl ?_
    refine mm_aload_n C (pc := 37) 0 dX4_seek_37 rfl ?_
    replace hK := mm_bd hK; obtain ⟨v38, e38, hK⟩ := hK
    refine mm_geti C (pc := 38) (k := 5) inGX4 rfl (by decide) wd_242 dX4_seek_38 e38 ?_
    refine mm_icmp_ge C (pc := 41) (tgt := 66) dX4_seek_41 (by decide) (fun hc => ?_) (fun hc => ?_)
    · replace hK := mm_ip hc hK
      refine mm_sub C [0, 1, 2] rfl ?_
      exact w_X4_seek_66 hd C _ _ _ _ hK
    · replace hK := mm_in hc hK
      refine mm_iload C (pc := 44) 3 dX4_seek_44 rfl ?_
      refine mm_iconst C (pc := 46) (v := (3 : Int32)) dX4_seek_46 (by decide) ?_
      refine mm_icmp_ge C (pc := 47) (tgt := 66) dX4_seek_47 (by decide) (fun hc => ?_) (fun hc => ?_)
      · replace hK := mm_ip hc hK
        refine mm_sub C [0, 1, 2] rfl ?_
        exact w_X4_seek_66 hd C _ _ _ _ hK
      · replace hK := mm_in hc hK
        refine mm_iload_n C (pc := 50) 2 dX4_seek_50 rfl ?_
        refine mm_aload_n C (pc := 51) 0 dX4_seek_51 rfl ?_
        replace hK := mm_bd hK; obtain ⟨v52, e52, hK⟩ := hK
        refine mm_getr C (pc := 52) (k := 1) inGX4 rfl (by decide) wd_238 dX4_seek_52 e52 ?_
        refine mm_iload C (pc := 55) 3 dX4_seek_55 rfl ?_
        replace hK := mm_bd hK; obtain ⟨v57, e57, hK⟩ := hK
        refine mm_iald C (pc := 57) dX4_seek_57 e57 ?_
        refine mm_ior C (pc := 58) dX4_seek_58 ?_
        refine mm_istore_n C (pc := 59) (i := 3) (lv' := [(3, .int (l3 ||| v57)), (0, va_rf l0), (2, .int l2), (4, .int l4)]) dX4_seek_59 rfl (by decide) rfl ?_
        refine mm_iinc C (pc := 60) (v := (l4 + (1 : Int32))) (lv' := [(4, .int (l4 + (1 : Int32))), (3, .int (l3 ||| v57)), (0, va_rf l0), (2, .int l2)]) 3 dX4_seek_60 rfl rfl (by decide) rfl ?_
        refine mm_goto C (pc := 63) (tgt := 35) dX4_seek_63 (by decide) ?_
        refine mm_sub C [2, 3, 1, 0] rfl ?_
        exact ih _ _ _ _ _ hK
def F_X4_seek_12 : Nat → Option Nat → Option Nat → Int32 → Int32 → MH → Option MH
  | 0 => fun _ _ _ _ _ => none
  | n + 1 => fun l0 l1 l2 l3 h => if l2 ≤ l3 then (F_X4_seek_35 mm_N l0 l2 (0 : Int32) (0 : Int32) h) else ((cV h l0 4 (F_X4_findOthers l0 l1 l3 l2 h)).bind fun h21 => F_X4_seek_12 n l0 l1 l2 (l3 + (1 : Int32)) h21)
set_option maxRecDepth 20000 in
set_option maxHeartbeats 4000000 in
theorem w_X4_seek_12 {d : Nat} {V : Nat → List (Nat × Value) → List Value → MH → Prop} {hz : MH} (hd : 66 ≤ d) (C : mm_C d yX4_seek cX4_seek 5 none (.inr none) hz V) : ∀ (n : Nat) (l0 : Option Nat) (l1 : Option Nat) (l2 : Int32) (l3 : Int32) (h : MH), F_X4_seek_12 n l0 l1 l2 l3 h = some hz → V 12 [(0, va_rf l0), (1, va_rf l1), (2, .int l2), (3, .int l3)] [] h := by
  intro n
  induction n with
  | zero => intro l0 l1 l2 l3 h hK; cases hK
  | succ n ih =>
    intro l0 l1 l2 l3 h hK
    replace hK : (if l2 ≤ l3 then (F_X4_seek_35 mm_N l0 l2 (0 : Int32) (0 : Int32) h) else ((cV h l0 4 (F_X4_findOthers l0 l1 l3 l2 h)).bind fun h21 => F_X4_seek_12 n l0 l1 l2 (l3 + (1 : Int32)) h21)) = some hz := hK
    refine mm_iload_n C (pc := 12) 3 dX4_seek_12 rfl ?_
    refine mm_iload_n C (pc := 13) 2 dX4_seek_13 rfl ?_
    refine mm_icmp_ge C (pc := 14) (tgt := 30) dX4_seek_14 (by decide) (fun hc => ?_) (fun hc => ?_)
    · replace hK := mm_ip hc hK
      refine mm_iconst C (pc := 30) (v := (0 : Int32)) dX4_seek_30 (by decide) ?_
      refine mm_istore_n C (pc := 31) (i := 3) (lv' := [(3, .int (0 : Int32)), (0, va_rf l0), (1, va_rf l1), (2, .int l2)]) dX4_seek_31 rfl (by decide) rfl ?_
      refine mm_iconst C (pc := 32) (v := (0 : Int32)) dX4_seek_32 (by decide) ?_
      refine mm_istore C (pc := 33) (i := 4) (lv' := [(4, .int (0 : Int32)), (3, .int (0 : Int32)), (0, va_rf l0), (1, va_rf l1), (2, .int l2)]) dX4_seek_33 (by decide) rfl ?_
      refine mm_sub C [2, 4, 1, 0] rfl ?_
      exact w_X4_seek_35 hd C _ _ _ _ _ _ hK
    · replace hK := mm_in hc hK
      refine mm_aload_n C (pc := 17) 0 dX4_seek_17 rfl ?_
      refine mm_aload_n C (pc := 18) 1 dX4_seek_18 rfl ?_
      refine mm_iload_n C (pc := 19) 3 dX4_seek_19 rfl ?_
      refine mm_iload_n C (pc := 20) 2 dX4_seek_20 rfl ?_
      replace hK := mm_bd hK; obtain ⟨h21, e21, hK⟩ := hK
      obtain ⟨o21, e21⟩ := cV_some e21
      refine mm_callV C (pc := 21) (d1 := 3) (As := [va_rf l1, .int l3, .int l2]) (st := []) (vk := none) ((S_X4_findOthers (by omega)) e21) tT_X4_findOthers o21 (Or.inr ⟨_, rfl, rfl⟩) wd_1713 wd_1715 wd_47 (by omega) (by decide) rfl (by simp [mm_crf, mm_cti, mm_ctl]) rfl dX4_seek_21 ?_
      show V _ _ [] _
      refine mm_iinc C (pc := 24) (v := (l3 + (1 : Int32))) (lv' := [(3, .int (l3 + (1 : Int32))), (0, va_rf l0), (1, va_rf l1), (2, .int l2)]) 3 dX4_seek_24 rfl rfl (by decide) rfl ?_
      refine mm_goto C (pc := 27) (tgt := 12) dX4_seek_27 (by decide) ?_
      refine mm_sub C [1, 2, 3, 0] rfl ?_
      exact ih _ _ _ _ _ hK
def F_X4_seek (a0 : Option Nat) (a1 : Option Nat) (h : MH) : Option MH := mm_b2 (cV h a1 0 (F_X0_calls a1 h)) fun v1 h1 => F_X4_seek_12 mm_N a0 a1 (mnI v1 (10 : Int32)) (0 : Int32) h1
set_option maxRecDepth 20000 in
set_option maxHeartbeats 4000000 in
theorem S_X4_seek {d : Nat} (hd : 66 ≤ d) {a0 : Option Nat} {a1 : Option Nat} {h : MH} {hz : MH} (hK : F_X4_seek a0 a1 h = some hz) : mm_M yX4_seek cX4_seek 5 none d [va_rf a0, va_rf a1] h (.inr none) hz := by
  refine mm_ofV (by decide +kernel) (by simp [lg_sl, mm_crf, mm_cti, mm_ctl]) (fun V C => ?_)
  rw [show lv_args 0 [va_rf a0, va_rf a1] = [(0, va_rf a0), (1, va_rf a1)] by simp [lv_args, mm_crf, mm_cti, mm_ctl]]
  unfold F_X4_seek at hK
  refine mm_aload_n C (pc := 0) 1 dX4_seek_0 rfl ?_
  replace hK := mm_b2s hK; obtain ⟨v1, h1, e1, hK⟩ := hK
  obtain ⟨o1, e1⟩ := cV_some e1
  refine mm_callV C (pc := 1) (d1 := 1) (As := []) (st := []) (vk := (some (.int v1))) ((S_X0_calls (by omega)) e1) tT_X0_calls o1 (Or.inr ⟨_, rfl, rfl⟩) wd_1706 wd_919 wd_920 (by omega) (by decide) rfl (by simp [mm_crf, mm_cti, mm_ctl]) rfl dX4_seek_1 ?_
  show V _ _ (.int v1 :: _) _
  refine mm_bipush C (pc := 4) (v := (10 : Int32)) dX4_seek_4 (by decide) ?_
  refine mm_mmin C (pc := 6) wd_1691 wd_409 wd_152 wd_410 (by omega) (by simp [mm_crf, mm_cti, mm_ctl]) dX4_seek_6 ?_
  refine mm_istore_n C (pc := 9) (i := 2) (lv' := [(2, .int (mnI v1 (10 : Int32))), (0, va_rf a0), (1, va_rf a1)]) dX4_seek_9 rfl (by decide) (by simp [mm_crf]) ?_
  refine mm_iconst C (pc := 10) (v := (0 : Int32)) dX4_seek_10 (by decide) ?_
  refine mm_istore_n C (pc := 11) (i := 3) (lv' := [(3, .int (0 : Int32)), (2, .int (mnI v1 (10 : Int32))), (0, va_rf a0), (1, va_rf a1)]) dX4_seek_11 rfl (by decide) rfl ?_
  refine mm_sub C [2, 3, 1, 0] rfl ?_
  exact w_X4_seek_12 hd C _ _ _ _ _ _ hK
theorem wd_778 : Cond.fieldLink RX4 47 "CrossedLines$Plan" "cords" "I" ∈ lw_good := mm_wd 778 (by decide +kernel) (by decide +kernel)
theorem wd_1695 : Cond.code yX4_ableCalls cX4_ableCalls 7 (some .int) ∈ lw_good := mm_wd 1695 (by decide +kernel) (by decide +kernel)
theorem tT_X4_ableCalls : mm_T yX4_ableCalls cX4_ableCalls 7 (some .int) 1 := ⟨wd_1695, wd_144, by decide +kernel, by decide +kernel, by decide +kernel, by decide +kernel⟩
theorem wd_1692 : Cond.methodLink RX4 56 yX4_ableCalls ∈ lw_good := mm_wd 1692 (by decide +kernel) (by decide +kernel)
theorem wd_1694 : Cond.instanceMethod yX4_ableCalls ∈ lw_good := mm_wd 1694 (by decide +kernel) (by decide +kernel)
theorem wd_44 : Cond.selects RX4 yX4_ableCalls yX4_ableCalls ∈ lw_good := mm_wd 44 (by decide +kernel) (by decide +kernel)
theorem wd_1712 : Cond.code yX4_seek cX4_seek 5 none ∈ lw_good := mm_wd 1712 (by decide +kernel) (by decide +kernel)
theorem tT_X4_seek : mm_T yX4_seek cX4_seek 5 none 1 := ⟨wd_1712, wd_144, by decide +kernel, by decide +kernel, by decide +kernel, by decide +kernel⟩
theorem wd_1709 : Cond.methodLink RX4 64 yX4_seek ∈ lw_good := mm_wd 1709 (by decide +kernel) (by decide +kernel)
theorem wd_1711 : Cond.instanceMethod yX4_seek ∈ lw_good := mm_wd 1711 (by decide +kernel) (by decide +kernel)
theorem wd_46 : Cond.selects RX4 yX4_seek yX4_seek ∈ lw_good := mm_wd 46 (by decide +kernel) (by decide +kernel)
theorem wd_1705 : Cond.code yX4_takenBy cX4_takenBy 6 (some .int) ∈ lw_good := mm_wd 1705 (by decide +kernel) (by decide +kernel)
theorem tT_X4_takenBy : mm_T yX4_takenBy cX4_takenBy 6 (some .int) 2 := ⟨wd_1705, wd_144, by decide +kernel, by decide +kernel, by decide +kernel, by decide +kernel⟩
theorem wd_1702 : Cond.methodLink RX4 60 yX4_takenBy ∈ lw_good := mm_wd 1702 (by decide +kernel) (by decide +kernel)
theorem wd_1704 : Cond.instanceMethod yX4_takenBy ∈ lw_good := mm_wd 1704 (by decide +kernel) (by decide +kernel)
theorem wd_45 : Cond.selects RX4 yX4_takenBy yX4_takenBy ∈ lw_good := mm_wd 45 (by decide +kernel) (by decide +kernel)
def F_X4_seekByBoard_23 : Nat → Option Nat → Option Nat → Int32 → Int32 → MH → Option MH
  | 0 => fun _ _ _ _ _ => none
  | n + 1 => fun l0 l1 l2 l3 h => (gI h l0 4 5).bind fun v25 => if v25 ≤ l3 then ((cV h l0 4 (F_X4_seek l0 l1 h)).bind fun h53 => some h53) else ((gR h l0 4 1).bind fun v32 => mm_b2 (cV h l0 4 (F_X4_takenBy l0 l1 l3 h)) fun v40 h40 => (sI h40 v32 0 l3 (l2 &&& v40)).bind fun h44 => F_X4_seekByBoard_23 n l0 l1 l2 (l3 + (1 : Int32)) h44)
set_option maxRecDepth 20000 in
set_option maxHeartbeats 4000000 in
theorem w_X4_seekByBoard_23 {d : Nat} {V : Nat → List (Nat × Value) → List Value → MH → Prop} {hz : MH} (hd : 67 ≤ d) (C : mm_C d yX4_seekByBoard cX4_seekByBoard 4 none (.inr none) hz V) : ∀ (n : Nat) (l0 : Option Nat) (l1 : Option Nat) (l2 : Int32) (l3 : Int32) (h : MH), F_X4_seekByBoard_23 n l0 l1 l2 l3 h = some hz → V 23 [(0, va_rf l0), (1, va_rf l1), (2, .int l2), (3, .int l3)] [] h := by
  intro n
  induction n with
  | zero => intro l0 l1 l2 l3 h hK; cases hK
  | succ n ih =>
    intro l0 l1 l2 l3 h hK
    replace hK : ((gI h l0 4 5).bind fun v25 => if v25 ≤ l3 then ((cV h l0 4 (F_X4_seek l0 l1 h)).bind fun h53 => some h53) else ((gR h l0 4 1).bind fun v32 => mm_b2 (cV h l0 4 (F_X4_takenBy l0 l1 l3 h)) fun v40 h40 => (sI h40 v32 0 l3 (l2 &&& v40)).bind fun h44 => F_X4_seekByBoard_23 n l0 l1 l2 (l3 + (1 : Int32)) h44)) = some hz := hK
    refine mm_iload_n C (pc := 23) 3 dX4_seekByBoard_23 rfl ?_
    refine mm_aload_n C (pc := 24) 0 dX4_seekByBoard_24 rfl ?_
    replace hK := mm_bd hK; obtain ⟨v25, e25, hK⟩ := hK
    refine mm_geti C (pc := 25) (k := 5) inGX4 rfl (by decide) wd_242 dX4_seekByBoard_25 e25 ?_
    refine mm_icmp_ge C (pc := 28) (tgt := 51) dX4_seekByBoard_28 (by decide) (fun hc => ?_) (fun hc => ?_)
    · replace hK := mm_ip hc hK
      refine mm_aload_n C (pc := 51) 0 dX4_seekByBoard_51 rfl ?_
      refine mm_aload_n C (pc := 52) 1 dX4_seekByBoard_52 rfl ?_
      replace hK := mm_bd hK; obtain ⟨h53, e53, hK⟩ := hK
      obtain ⟨o53, e53⟩ := cV_some e53
      refine mm_callV C (pc := 53) (d1 := 66) (As := [va_rf l1]) (st := []) (vk := none) ((S_X4_seek (by omega)) e53) tT_X4_seek o53 (Or.inr ⟨_, rfl, rfl⟩) wd_1709 wd_1711 wd_46 (by omega) (by decide) rfl (by simp [mm_crf, mm_cti, mm_ctl]) rfl dX4_seekByBoard_53 ?_
      show V _ _ [] _
      cases hK
      exact mm_vret C (pc := 56) rfl dX4_seekByBoard_56 rfl rfl
    · replace hK := mm_in hc hK
      refine mm_aload_n C (pc := 31) 0 dX4_seekByBoard_31 rfl ?_
      replace hK := mm_bd hK; obtain ⟨v32, e32, hK⟩ := hK
      refine mm_getr C (pc := 32) (k := 1) inGX4 rfl (by decide) wd_238 dX4_seekByBoard_32 e32 ?_
      refine mm_iload_n C (pc := 35) 3 dX4_seekByBoard_35 rfl ?_
      refine mm_iload_n C (pc := 36) 2 dX4_seekByBoard_36 rfl ?_
      refine mm_aload_n C (pc := 37) 0 dX4_seekByBoard_37 rfl ?_
      refine mm_aload_n C (pc := 38) 1 dX4_seekByBoard_38 rfl ?_
      refine mm_iload_n C (pc := 39) 3 dX4_seekByBoard_39 rfl ?_
      replace hK := mm_b2s hK; obtain ⟨v40, h40, e40, hK⟩ := hK
      obtain ⟨o40, e40⟩ := cV_some e40
      refine mm_callV C (pc := 40) (d1 := 2) (As := [va_rf l1, .int l3]) (st := [.int l2, .int l3, va_rf v32]) (vk := (some (.int v40))) ((S_X4_takenBy (by omega)) e40) tT_X4_takenBy o40 (Or.inr ⟨_, rfl, rfl⟩) wd_1702 wd_1704 wd_45 (by omega) (by decide) rfl (by simp [mm_crf, mm_cti, mm_ctl]) rfl dX4_seekByBoard_40 ?_
      show V _ _ (.int v40 :: _) _
      refine mm_iand C (pc := 43) dX4_seekByBoard_43 ?_
      replace hK := mm_bd hK; obtain ⟨h44, e44, hK⟩ := hK
      refine mm_iast C (pc := 44) dX4_seekByBoard_44 e44 ?_
      refine mm_iinc C (pc := 45) (v := (l3 + (1 : Int32))) (lv' := [(3, .int (l3 + (1 : Int32))), (0, va_rf l0), (1, va_rf l1), (2, .int l2)]) 3 dX4_seekByBoard_45 rfl rfl (by decide) rfl ?_
      refine mm_goto C (pc := 48) (tgt := 23) dX4_seekByBoard_48 (by decide) ?_
      refine mm_sub C [1, 2, 3, 0] rfl ?_
      exact ih _ _ _ _ _ hK
def F_X4_seekByBoard (a0 : Option Nat) (a1 : Option Nat) (h : MH) : Option MH := (gR h a1 0 2).bind fun v2 => (gI h v2 8 1).bind fun v5 => (pI h a0 4 5 (mnI v5 (3 : Int32))).bind fun h12 => mm_b2 (cV h12 a0 4 (F_X4_ableCalls a0 a1 h12)) fun v17 h17 => F_X4_seekByBoard_23 mm_N a0 a1 v17 (0 : Int32) h17
set_option maxRecDepth 20000 in
set_option maxHeartbeats 4000000 in
theorem S_X4_seekByBoard {d : Nat} (hd : 67 ≤ d) {a0 : Option Nat} {a1 : Option Nat} {h : MH} {hz : MH} (hK : F_X4_seekByBoard a0 a1 h = some hz) : mm_M yX4_seekByBoard cX4_seekByBoard 4 none d [va_rf a0, va_rf a1] h (.inr none) hz := by
  refine mm_ofV (by decide +kernel) (by simp [lg_sl, mm_crf, mm_cti, mm_ctl]) (fun V C => ?_)
  rw [show lv_args 0 [va_rf a0, va_rf a1] = [(0, va_rf a0), (1, va_rf a1)] by simp [lv_args, mm_crf, mm_cti, mm_ctl]]
  unfold F_X4_seekByBoard at hK
  refine mm_aload_n C (pc := 0) 0 dX4_seekByBoard_0 rfl ?_
  refine mm_aload_n C (pc := 1) 1 dX4_seekByBoard_1 rfl ?_
  replace hK := mm_bd hK; obtain ⟨v2, e2, hK⟩ := hK
  refine mm_getr C (pc := 2) (k := 2) inGX0 rfl (by decide) wd_820 dX4_seekByBoard_2 e2 ?_
  replace hK := mm_bd hK; obtain ⟨v5, e5, hK⟩ := hK
  refine mm_geti C (pc := 5) (k := 1) inGX8 rfl (by decide) wd_778 dX4_seekByBoard_5 e5 ?_
  refine mm_iconst C (pc := 8) (v := (3 : Int32)) dX4_seekByBoard_8 (by decide) ?_
  refine mm_mmin C (pc := 9) wd_1691 wd_409 wd_152 wd_410 (by omega) (by simp [mm_crf, mm_cti, mm_ctl]) dX4_seekByBoard_9 ?_
  replace hK := mm_bd hK; obtain ⟨h12, e12, hK⟩ := hK
  refine mm_puti C (pc := 12) (k := 5) false (fun z => by cases z) inGX4 tyX4 tyX4_ok nmX4 rfl (by decide) wd_242 rfl rfl dX4_seekByBoard_12 e12 ?_
  refine mm_aload_n C (pc := 15) 0 dX4_seekByBoard_15 rfl ?_
  refine mm_aload_n C (pc := 16) 1 dX4_seekByBoard_16 rfl ?_
  replace hK := mm_b2s hK; obtain ⟨v17, h17, e17, hK⟩ := hK
  obtain ⟨o17, e17⟩ := cV_some e17
  refine mm_callV C (pc := 17) (d1 := 4) (As := [va_rf a1]) (st := []) (vk := (some (.int v17))) ((S_X4_ableCalls (by omega)) e17) tT_X4_ableCalls o17 (Or.inr ⟨_, rfl, rfl⟩) wd_1692 wd_1694 wd_44 (by omega) (by decide) rfl (by simp [mm_crf, mm_cti, mm_ctl]) rfl dX4_seekByBoard_17 ?_
  show V _ _ (.int v17 :: _) _
  refine mm_istore_n C (pc := 20) (i := 2) (lv' := [(2, .int v17), (0, va_rf a0), (1, va_rf a1)]) dX4_seekByBoard_20 rfl (by decide) (by simp [mm_crf]) ?_
  refine mm_iconst C (pc := 21) (v := (0 : Int32)) dX4_seekByBoard_21 (by decide) ?_
  refine mm_istore_n C (pc := 22) (i := 3) (lv' := [(3, .int (0 : Int32)), (2, .int v17), (0, va_rf a0), (1, va_rf a1)]) dX4_seekByBoard_22 rfl (by decide) rfl ?_
  refine mm_sub C [2, 3, 1, 0] rfl ?_
  exact w_X4_seekByBoard_23 hd C _ _ _ _ _ _ hK
def F_X4_most (a0 : Option Nat) (h : MH) : Option (Int32 × MH) := (gI h a0 4 6).bind fun v1 => some (v1, h)
set_option maxRecDepth 20000 in
set_option maxHeartbeats 4000000 in
theorem S_X4_most {d : Nat} (hd : 1 ≤ d) {a0 : Option Nat} {h : MH} {r : Int32} {hz : MH} (hK : F_X4_most a0 h = some (r, hz)) : mm_M yX4_most cX4_most 1 (some .int) d [va_rf a0] h (.inr (some (.int r))) hz := by
  refine mm_ofV (by decide +kernel) (by simp [lg_sl, mm_crf, mm_cti, mm_ctl]) (fun V C => ?_)
  rw [show lv_args 0 [va_rf a0] = [(0, va_rf a0)] by simp [lv_args, mm_crf, mm_cti, mm_ctl]]
  unfold F_X4_most at hK
  refine mm_aload_n C (pc := 0) 0 dX4_most_0 rfl ?_
  replace hK := mm_bd hK; obtain ⟨v1, e1, hK⟩ := hK
  refine mm_geti C (pc := 1) (k := 6) inGX4 rfl (by decide) wd_243 dX4_most_1 e1 ?_
  cases hK
  exact mm_iret C (pc := 4) rfl dX4_most_4 rfl rfl
def F_X4_mostBits (a0 : Option Nat) (h : MH) : Option (Int32 × MH) := (gI h a0 4 7).bind fun v1 => some (v1, h)
set_option maxRecDepth 20000 in
set_option maxHeartbeats 4000000 in
theorem S_X4_mostBits {d : Nat} (hd : 1 ≤ d) {a0 : Option Nat} {h : MH} {r : Int32} {hz : MH} (hK : F_X4_mostBits a0 h = some (r, hz)) : mm_M yX4_mostBits cX4_mostBits 1 (some .int) d [va_rf a0] h (.inr (some (.int r))) hz := by
  refine mm_ofV (by decide +kernel) (by simp [lg_sl, mm_crf, mm_cti, mm_ctl]) (fun V C => ?_)
  rw [show lv_args 0 [va_rf a0] = [(0, va_rf a0)] by simp [lv_args, mm_crf, mm_cti, mm_ctl]]
  unfold F_X4_mostBits at hK
  refine mm_aload_n C (pc := 0) 0 dX4_mostBits_0 rfl ?_
  replace hK := mm_bd hK; obtain ⟨v1, e1, hK⟩ := hK
  refine mm_geti C (pc := 1) (k := 7) inGX4 rfl (by decide) wd_244 dX4_mostBits_1 e1 ?_
  cases hK
  exact mm_iret C (pc := 4) rfl dX4_mostBits_4 rfl rfl
theorem wd_1690 : Cond.code yX4_seekByBoard cX4_seekByBoard 4 none ∈ lw_good := mm_wd 1690 (by decide +kernel) (by decide +kernel)
theorem tT_X4_seekByBoard : mm_T yX4_seekByBoard cX4_seekByBoard 4 none 1 := ⟨wd_1690, wd_144, by decide +kernel, by decide +kernel, by decide +kernel, by decide +kernel⟩
theorem wd_1687 : Cond.methodLink RX11 296 yX4_seekByBoard ∈ lw_good := mm_wd 1687 (by decide +kernel) (by decide +kernel)
theorem wd_1688 : Cond.instanceMethod yX4_seekByBoard ∈ lw_good := mm_wd 1688 (by decide +kernel) (by decide +kernel)
theorem wd_1689 : Cond.selects RX4 yX4_seekByBoard yX4_seekByBoard ∈ lw_good := mm_wd 1689 (by decide +kernel) (by decide +kernel)
theorem wd_1735 : Cond.code yX4_mostBits cX4_mostBits 1 (some .int) ∈ lw_good := mm_wd 1735 (by decide +kernel) (by decide +kernel)
theorem tT_X4_mostBits : mm_T yX4_mostBits cX4_mostBits 1 (some .int) 0 := ⟨wd_1735, wd_144, by decide +kernel, by decide +kernel, by decide +kernel, by decide +kernel⟩
theorem wd_1732 : Cond.methodLink RX11 302 yX4_mostBits ∈ lw_good := mm_wd 1732 (by decide +kernel) (by decide +kernel)
theorem wd_1733 : Cond.instanceMethod yX4_mostBits ∈ lw_good := mm_wd 1733 (by decide +kernel) (by decide +kernel)
theorem wd_1734 : Cond.selects RX4 yX4_mostBits yX4_mostBits ∈ lw_good := mm_wd 1734 (by decide +kernel) (by decide +kernel)
theorem wd_1731 : Cond.code yX4_most cX4_most 1 (some .int) ∈ lw_good := mm_wd 1731 (by decide +kernel) (by decide +kernel)
theorem tT_X4_most : mm_T yX4_most cX4_most 1 (some .int) 0 := ⟨wd_1731, wd_144, by decide +kernel, by decide +kernel, by decide +kernel, by decide +kernel⟩
theorem wd_1728 : Cond.methodLink RX11 299 yX4_most ∈ lw_good := mm_wd 1728 (by decide +kernel) (by decide +kernel)
theorem wd_1729 : Cond.instanceMethod yX4_most ∈ lw_good := mm_wd 1729 (by decide +kernel) (by decide +kernel)
theorem wd_1730 : Cond.selects RX4 yX4_most yX4_most ∈ lw_good := mm_wd 1730 (by decide +kernel) (by decide +kernel)
def F_X11_best_38 (s0 : Int32) (h : MH) : Option ((String ⊕ Int32) × MH) := some (.inr s0, h)
set_option maxRecDepth 20000 in
set_option maxHeartbeats 4000000 in
theorem w_X11_best_38 {d : Nat} {V : Nat → List (Nat × Value) → List Value → MH → Prop} {r : String ⊕ Int32} {hz : MH} (hd : 68 ≤ d) (C : mm_C d yX11_best cX11_best 2 (some .int) (mm_oi r) hz V) (s0 : Int32) (h : MH) (hK : F_X11_best_38 s0 h = some (r, hz)) : V 38 [] [.int s0] h := by
  unfold F_X11_best_38 at hK
  cases hK
  exact mm_iret C (pc := 38) rfl dX11_best_38 rfl rfl
def F_X11_best (a0 : Option Nat) (a1 : Int32) (h : MH) : Option ((String ⊕ Int32) × MH) := mm_b3 (F_X11_needWithin a1 (0 : Int32) (1 : Int32) h) fun _ h3 => (gR h3 a0 11 11).bind fun v7 => (gR h3 a0 11 5).bind fun v11 => (cV h3 v7 4 (F_X4_seekByBoard v7 v11 h3)).bind fun h14 => if a1 = 0 then ((gR h14 a0 11 11).bind fun v22 => mm_b2 (cV h14 v22 4 (F_X4_most v22 h14)) fun v25 h25 => F_X11_best_38 v25 h25) else ((gR h14 a0 11 11).bind fun v32 => mm_b2 (cV h14 v32 4 (F_X4_mostBits v32 h14)) fun v35 h35 => F_X11_best_38 v35 h35)
set_option maxRecDepth 20000 in
set_option maxHeartbeats 4000000 in
theorem S_X11_best {d : Nat} (hd : 68 ≤ d) {a0 : Option Nat} {a1 : Int32} {h : MH} {r : String ⊕ Int32} {hz : MH} (hK : F_X11_best a0 a1 h = some (r, hz)) : mm_M yX11_best cX11_best 2 (some .int) d [va_rf a0, .int a1] h (mm_oi r) hz := by
  refine mm_ofV (by decide +kernel) (by simp [lg_sl, mm_crf, mm_cti, mm_ctl]) (fun V C => ?_)
  rw [show lv_args 0 [va_rf a0, .int a1] = [(0, va_rf a0), (1, .int a1)] by simp [lv_args, mm_crf, mm_cti, mm_ctl]]
  unfold F_X11_best at hK
  refine mm_iload_n C (pc := 0) 1 dX11_best_0 rfl ?_
  refine mm_iconst C (pc := 1) (v := (0 : Int32)) dX11_best_1 (by decide) ?_
  refine mm_iconst C (pc := 2) (v := (1 : Int32)) dX11_best_2 (by decide) ?_
  replace hK := mm_b3s hK; rcases hK with ⟨E3, e3, rfl⟩ | ⟨v3, h3, e3, hK⟩
  · skip
    exact mm_callSX C (pc := 3) (d1 := 6) (As := [.int a1, .int (0 : Int32), .int (1 : Int32)]) (st := []) ((S_X11_needWithin (by omega)) e3) tT_X11_needWithin wd_1163 wd_1164 (by omega) (by decide) rfl (by simp [mm_crf, mm_cti, mm_ctl]) rfl dX11_best_3 rfl rfl
  refine mm_callS C (pc := 3) (d1 := 6) (As := [.int a1, .int (0 : Int32), .int (1 : Int32)]) (st := []) (vk := none) ((S_X11_needWithin (by omega)) e3) tT_X11_needWithin wd_1163 wd_1164 (by omega) (by decide) rfl (by simp [mm_crf, mm_cti, mm_ctl]) rfl dX11_best_3 ?_
  show V _ _ [] _
  refine mm_aload_n C (pc := 6) 0 dX11_best_6 rfl ?_
  replace hK := mm_bd hK; obtain ⟨v7, e7, hK⟩ := hK
  refine mm_getr C (pc := 7) (k := 11) inGX11 rfl (by decide) wd_856 dX11_best_7 e7 ?_
  refine mm_aload_n C (pc := 10) 0 dX11_best_10 rfl ?_
  replace hK := mm_bd hK; obtain ⟨v11, e11, hK⟩ := hK
  refine mm_getr C (pc := 11) (k := 5) inGX11 rfl (by decide) wd_850 dX11_best_11 e11 ?_
  replace hK := mm_bd hK; obtain ⟨h14, e14, hK⟩ := hK
  obtain ⟨o14, e14⟩ := cV_some e14
  refine mm_callV C (pc := 14) (d1 := 67) (As := [va_rf v11]) (st := []) (vk := none) ((S_X4_seekByBoard (by omega)) e14) tT_X4_seekByBoard o14 (Or.inr ⟨_, rfl, rfl⟩) wd_1687 wd_1688 wd_1689 (by omega) (by decide) rfl (by simp [mm_crf, mm_cti, mm_ctl]) rfl dX11_best_14 ?_
  show V _ _ [] _
  refine mm_iload_n C (pc := 17) 1 dX11_best_17 rfl ?_
  refine mm_if_ne C (pc := 18) (tgt := 31) dX11_best_18 (by decide) (fun hc => ?_) (fun hc => ?_)
  · replace hK := mm_in hc hK
    refine mm_aload_n C (pc := 31) 0 dX11_best_31 rfl ?_
    replace hK := mm_bd hK; obtain ⟨v32, e32, hK⟩ := hK
    refine mm_getr C (pc := 32) (k := 11) inGX11 rfl (by decide) wd_856 dX11_best_32 e32 ?_
    replace hK := mm_b2s hK; obtain ⟨v35, h35, e35, hK⟩ := hK
    obtain ⟨o35, e35⟩ := cV_some e35
    refine mm_callV C (pc := 35) (d1 := 1) (As := []) (st := []) (vk := (some (.int v35))) ((S_X4_mostBits (by omega)) e35) tT_X4_mostBits o35 (Or.inr ⟨_, rfl, rfl⟩) wd_1732 wd_1733 wd_1734 (by omega) (by decide) rfl (by simp [mm_crf, mm_cti, mm_ctl]) rfl dX11_best_35 ?_
    show V _ _ (.int v35 :: _) _
    refine mm_sub C [] rfl ?_
    exact w_X11_best_38 hd C _ _ hK
  · replace hK := mm_ip hc hK
    refine mm_aload_n C (pc := 21) 0 dX11_best_21 rfl ?_
    replace hK := mm_bd hK; obtain ⟨v22, e22, hK⟩ := hK
    refine mm_getr C (pc := 22) (k := 11) inGX11 rfl (by decide) wd_856 dX11_best_22 e22 ?_
    replace hK := mm_b2s hK; obtain ⟨v25, h25, e25, hK⟩ := hK
    obtain ⟨o25, e25⟩ := cV_some e25
    refine mm_callV C (pc := 25) (d1 := 1) (As := []) (st := []) (vk := (some (.int v25))) ((S_X4_most (by omega)) e25) tT_X4_most o25 (Or.inr ⟨_, rfl, rfl⟩) wd_1728 wd_1729 wd_1730 (by omega) (by decide) rfl (by simp [mm_crf, mm_cti, mm_ctl]) rfl dX11_best_25 ?_
    show V _ _ (.int v25 :: _) _
    refine mm_goto C (pc := 28) (tgt := 38) dX11_best_28 (by decide) ?_
    refine mm_sub C [] rfl ?_
    exact w_X11_best_38 hd C _ _ hK
theorem wd_1747 : Cond.methodLink RX4 68 yJ9_max_7cf53 ∈ lw_good := mm_wd 1747 (by decide +kernel) (by decide +kernel)
def F_X4_seekByCords_22 : Nat → Option Nat → Option Nat → Int32 → Int32 → MH → Option MH
  | 0 => fun _ _ _ _ _ => none
  | n + 1 => fun l0 l1 l3 l4 h => (gI h l0 4 5).bind fun v25 => if v25 ≤ l4 then ((cV h l0 4 (F_X4_seek l0 l1 h)).bind fun h47 => some h47) else ((gR h l0 4 1).bind fun v32 => (sI h v32 0 l4 l3).bind fun h38 => F_X4_seekByCords_22 n l0 l1 l3 (l4 + (1 : Int32)) h38)
set_option maxRecDepth 20000 in
set_option maxHeartbeats 4000000 in
theorem w_X4_seekByCords_22 {d : Nat} {V : Nat → List (Nat × Value) → List Value → MH → Prop} {hz : MH} (hd : 67 ≤ d) (C : mm_C d yX4_seekByCords cX4_seekByCords 5 none (.inr none) hz V) : ∀ (n : Nat) (l0 : Option Nat) (l1 : Option Nat) (l3 : Int32) (l4 : Int32) (h : MH), F_X4_seekByCords_22 n l0 l1 l3 l4 h = some hz → V 22 [(0, va_rf l0), (1, va_rf l1), (3, .int l3), (4, .int l4)] [] h := by
  intro n
  induction n with
  | zero => intro l0 l1 l3 l4 h hK; cases hK
  | succ n ih =>
    intro l0 l1 l3 l4 h hK
    replace hK : ((gI h l0 4 5).bind fun v25 => if v25 ≤ l4 then ((cV h l0 4 (F_X4_seek l0 l1 h)).bind fun h47 => some h47) else ((gR h l0 4 1).bind fun v32 => (sI h v32 0 l4 l3).bind fun h38 => F_X4_seekByCords_22 n l0 l1 l3 (l4 + (1 : Int32)) h38)) = some hz := hK
    refine mm_iload C (pc := 22) 3 dX4_seekByCords_22 rfl ?_
    refine mm_aload_n C (pc := 24) 0 dX4_seekByCords_24 rfl ?_
    replace hK := mm_bd hK; obtain ⟨v25, e25, hK⟩ := hK
    refine mm_geti C (pc := 25) (k := 5) inGX4 rfl (by decide) wd_242 dX4_seekByCords_25 e25 ?_
    refine mm_icmp_ge C (pc := 28) (tgt := 45) dX4_seekByCords_28 (by decide) (fun hc => ?_) (fun hc => ?_)
    · replace hK := mm_ip hc hK
      refine mm_aload_n C (pc := 45) 0 dX4_seekByCords_45 rfl ?_
      refine mm_aload_n C (pc := 46) 1 dX4_seekByCords_46 rfl ?_
      replace hK := mm_bd hK; obtain ⟨h47, e47, hK⟩ := hK
      obtain ⟨o47, e47⟩ := cV_some e47
      refine mm_callV C (pc := 47) (d1 := 66) (As := [va_rf l1]) (st := []) (vk := none) ((S_X4_seek (by omega)) e47) tT_X4_seek o47 (Or.inr ⟨_, rfl, rfl⟩) wd_1709 wd_1711 wd_46 (by omega) (by decide) rfl (by simp [mm_crf, mm_cti, mm_ctl]) rfl dX4_seekByCords_47 ?_
      show V _ _ [] _
      cases hK
      exact mm_vret C (pc := 50) rfl dX4_seekByCords_50 rfl rfl
    · replace hK := mm_in hc hK
      refine mm_aload_n C (pc := 31) 0 dX4_seekByCords_31 rfl ?_
      replace hK := mm_bd hK; obtain ⟨v32, e32, hK⟩ := hK
      refine mm_getr C (pc := 32) (k := 1) inGX4 rfl (by decide) wd_238 dX4_seekByCords_32 e32 ?_
      refine mm_iload C (pc := 35) 3 dX4_seekByCords_35 rfl ?_
      refine mm_iload_n C (pc := 37) 2 dX4_seekByCords_37 rfl ?_
      replace hK := mm_bd hK; obtain ⟨h38, e38, hK⟩ := hK
      refine mm_iast C (pc := 38) dX4_seekByCords_38 e38 ?_
      refine mm_iinc C (pc := 39) (v := (l4 + (1 : Int32))) (lv' := [(4, .int (l4 + (1 : Int32))), (0, va_rf l0), (1, va_rf l1), (3, .int l3)]) 3 dX4_seekByCords_39 rfl rfl (by decide) rfl ?_
      refine mm_goto C (pc := 42) (tgt := 22) dX4_seekByCords_42 (by decide) ?_
      refine mm_sub C [1, 2, 3, 0] rfl ?_
      exact ih _ _ _ _ _ hK
def F_X4_seekByCords (a0 : Option Nat) (a1 : Option Nat) (a2 : Int32) (h : MH) : Option MH := (pI h a0 4 5 (mxI (0 : Int32) (mnI a2 (3 : Int32)))).bind fun h10 => mm_b2 (cV h10 a0 4 (F_X4_ableCalls a0 a1 h10)) fun v15 h15 => F_X4_seekByCords_22 mm_N a0 a1 v15 (0 : Int32) h15
set_option maxRecDepth 20000 in
set_option maxHeartbeats 4000000 in
theorem S_X4_seekByCords {d : Nat} (hd : 67 ≤ d) {a0 : Option Nat} {a1 : Option Nat} {a2 : Int32} {h : MH} {hz : MH} (hK : F_X4_seekByCords a0 a1 a2 h = some hz) : mm_M yX4_seekByCords cX4_seekByCords 5 none d [va_rf a0, va_rf a1, .int a2] h (.inr none) hz := by
  refine mm_ofV (by decide +kernel) (by simp [lg_sl, mm_crf, mm_cti, mm_ctl]) (fun V C => ?_)
  rw [show lv_args 0 [va_rf a0, va_rf a1, .int a2] = [(0, va_rf a0), (1, va_rf a1), (2, .int a2)] by simp [lv_args, mm_crf, mm_cti, mm_ctl]]
  unfold F_X4_seekByCords at hK
  refine mm_aload_n C (pc := 0) 0 dX4_seekByCords_0 rfl ?_
  refine mm_iconst C (pc := 1) (v := (0 : Int32)) dX4_seekByCords_1 (by decide) ?_
  refine mm_iload_n C (pc := 2) 2 dX4_seekByCords_2 rfl ?_
  refine mm_iconst C (pc := 3) (v := (3 : Int32)) dX4_seekByCords_3 (by decide) ?_
  refine mm_mmin C (pc := 4) wd_1691 wd_409 wd_152 wd_410 (by omega) (by simp [mm_crf, mm_cti, mm_ctl]) dX4_seekByCords_4 ?_
  refine mm_mmax C (pc := 7) wd_1747 wd_412 wd_152 wd_413 (by omega) (by simp [mm_crf, mm_cti, mm_ctl]) dX4_seekByCords_7 ?_
  replace hK := mm_bd hK; obtain ⟨h10, e10, hK⟩ := hK
  refine mm_puti C (pc := 10) (k := 5) false (fun z => by cases z) inGX4 tyX4 tyX4_ok nmX4 rfl (by decide) wd_242 rfl rfl dX4_seekByCords_10 e10 ?_
  refine mm_aload_n C (pc := 13) 0 dX4_seekByCords_13 rfl ?_
  refine mm_aload_n C (pc := 14) 1 dX4_seekByCords_14 rfl ?_
  replace hK := mm_b2s hK; obtain ⟨v15, h15, e15, hK⟩ := hK
  obtain ⟨o15, e15⟩ := cV_some e15
  refine mm_callV C (pc := 15) (d1 := 4) (As := [va_rf a1]) (st := []) (vk := (some (.int v15))) ((S_X4_ableCalls (by omega)) e15) tT_X4_ableCalls o15 (Or.inr ⟨_, rfl, rfl⟩) wd_1692 wd_1694 wd_44 (by omega) (by decide) rfl (by simp [mm_crf, mm_cti, mm_ctl]) rfl dX4_seekByCords_15 ?_
  show V _ _ (.int v15 :: _) _
  refine mm_istore_n C (pc := 18) (i := 3) (lv' := [(3, .int v15), (0, va_rf a0), (1, va_rf a1), (2, .int a2)]) dX4_seekByCords_18 rfl (by decide) rfl ?_
  refine mm_iconst C (pc := 19) (v := (0 : Int32)) dX4_seekByCords_19 (by decide) ?_
  refine mm_istore C (pc := 20) (i := 4) (lv' := [(4, .int (0 : Int32)), (3, .int v15), (0, va_rf a0), (1, va_rf a1), (2, .int a2)]) dX4_seekByCords_20 (by decide) rfl ?_
  refine mm_sub C [2, 3, 1, 0] rfl ?_
  exact w_X4_seekByCords_22 hd C _ _ _ _ _ _ hK
theorem wd_1746 : Cond.code yX4_seekByCords cX4_seekByCords 5 none ∈ lw_good := mm_wd 1746 (by decide +kernel) (by decide +kernel)
theorem tT_X4_seekByCords : mm_T yX4_seekByCords cX4_seekByCords 5 none 2 := ⟨wd_1746, wd_144, by decide +kernel, by decide +kernel, by decide +kernel, by decide +kernel⟩
theorem wd_1743 : Cond.methodLink RX11 305 yX4_seekByCords ∈ lw_good := mm_wd 1743 (by decide +kernel) (by decide +kernel)
theorem wd_1744 : Cond.instanceMethod yX4_seekByCords ∈ lw_good := mm_wd 1744 (by decide +kernel) (by decide +kernel)
theorem wd_1745 : Cond.selects RX4 yX4_seekByCords yX4_seekByCords ∈ lw_good := mm_wd 1745 (by decide +kernel) (by decide +kernel)
def F_X11_bestBy (a0 : Option Nat) (a1 : Int32) (h : MH) : Option ((String ⊕ Int32) × MH) := mm_b3 (F_X11_needWithin a1 (0 : Int32) (3 : Int32) h) fun _ h3 => (gR h3 a0 11 11).bind fun v7 => (gR h3 a0 11 5).bind fun v11 => (cV h3 v7 4 (F_X4_seekByCords v7 v11 a1 h3)).bind fun h15 => (gR h15 a0 11 11).bind fun v19 => mm_b2 (cV h15 v19 4 (F_X4_most v19 h15)) fun v22 h22 => some (.inr v22, h22)
set_option maxRecDepth 20000 in
set_option maxHeartbeats 4000000 in
theorem S_X11_bestBy {d : Nat} (hd : 68 ≤ d) {a0 : Option Nat} {a1 : Int32} {h : MH} {r : String ⊕ Int32} {hz : MH} (hK : F_X11_bestBy a0 a1 h = some (r, hz)) : mm_M yX11_bestBy cX11_bestBy 2 (some .int) d [va_rf a0, .int a1] h (mm_oi r) hz := by
  refine mm_ofV (by decide +kernel) (by simp [lg_sl, mm_crf, mm_cti, mm_ctl]) (fun V C => ?_)
  rw [show lv_args 0 [va_rf a0, .int a1] = [(0, va_rf a0), (1, .int a1)] by simp [lv_args, mm_crf, mm_cti, mm_ctl]]
  unfold F_X11_bestBy at hK
  refine mm_iload_n C (pc := 0) 1 dX11_bestBy_0 rfl ?_
  refine mm_iconst C (pc := 1) (v := (0 : Int32)) dX11_bestBy_1 (by decide) ?_
  refine mm_iconst C (pc := 2) (v := (3 : Int32)) dX11_bestBy_2 (by decide) ?_
  replace hK := mm_b3s hK; rcases hK with ⟨E3, e3, rfl⟩ | ⟨v3, h3, e3, hK⟩
  · skip
    exact mm_callSX C (pc := 3) (d1 := 6) (As := [.int a1, .int (0 : Int32), .int (3 : Int32)]) (st := []) ((S_X11_needWithin (by omega)) e3) tT_X11_needWithin wd_1163 wd_1164 (by omega) (by decide) rfl (by simp [mm_crf, mm_cti, mm_ctl]) rfl dX11_bestBy_3 rfl rfl
  refine mm_callS C (pc := 3) (d1 := 6) (As := [.int a1, .int (0 : Int32), .int (3 : Int32)]) (st := []) (vk := none) ((S_X11_needWithin (by omega)) e3) tT_X11_needWithin wd_1163 wd_1164 (by omega) (by decide) rfl (by simp [mm_crf, mm_cti, mm_ctl]) rfl dX11_bestBy_3 ?_
  show V _ _ [] _
  refine mm_aload_n C (pc := 6) 0 dX11_bestBy_6 rfl ?_
  replace hK := mm_bd hK; obtain ⟨v7, e7, hK⟩ := hK
  refine mm_getr C (pc := 7) (k := 11) inGX11 rfl (by decide) wd_856 dX11_bestBy_7 e7 ?_
  refine mm_aload_n C (pc := 10) 0 dX11_bestBy_10 rfl ?_
  replace hK := mm_bd hK; obtain ⟨v11, e11, hK⟩ := hK
  refine mm_getr C (pc := 11) (k := 5) inGX11 rfl (by decide) wd_850 dX11_bestBy_11 e11 ?_
  refine mm_iload_n C (pc := 14) 1 dX11_bestBy_14 rfl ?_
  replace hK := mm_bd hK; obtain ⟨h15, e15, hK⟩ := hK
  obtain ⟨o15, e15⟩ := cV_some e15
  refine mm_callV C (pc := 15) (d1 := 67) (As := [va_rf v11, .int a1]) (st := []) (vk := none) ((S_X4_seekByCords (by omega)) e15) tT_X4_seekByCords o15 (Or.inr ⟨_, rfl, rfl⟩) wd_1743 wd_1744 wd_1745 (by omega) (by decide) rfl (by simp [mm_crf, mm_cti, mm_ctl]) rfl dX11_bestBy_15 ?_
  show V _ _ [] _
  refine mm_aload_n C (pc := 18) 0 dX11_bestBy_18 rfl ?_
  replace hK := mm_bd hK; obtain ⟨v19, e19, hK⟩ := hK
  refine mm_getr C (pc := 19) (k := 11) inGX11 rfl (by decide) wd_856 dX11_bestBy_19 e19 ?_
  replace hK := mm_b2s hK; obtain ⟨v22, h22, e22, hK⟩ := hK
  obtain ⟨o22, e22⟩ := cV_some e22
  refine mm_callV C (pc := 22) (d1 := 1) (As := []) (st := []) (vk := (some (.int v22))) ((S_X4_most (by omega)) e22) tT_X4_most o22 (Or.inr ⟨_, rfl, rfl⟩) wd_1728 wd_1729 wd_1730 (by omega) (by decide) rfl (by simp [mm_crf, mm_cti, mm_ctl]) rfl dX11_bestBy_22 ?_
  show V _ _ (.int v22 :: _) _
  cases hK
  exact mm_iret C (pc := 25) rfl dX11_bestBy_25 rfl rfl
theorem wd_1092 : Cond.methodLink RX11 316 yX8_reaches ∈ lw_good := mm_wd 1092 (by decide +kernel) (by decide +kernel)
def F_X11_joinAnyTwo_76 (k10 : Int32 → Option Nat → Int32 → MH → Option (Int32 × MH)) (k23 : Int32 → Option Nat → Int32 → Int32 → MH → Option (Int32 × MH)) (k38 : Int32 → Option Nat → Int32 → Int32 → Int32 → Int32 → MH → Option (Int32 × MH)) (l1 : Int32) (l2 : Option Nat) (l3 : Int32) (l4 : Int32) (l6 : Int32) (s0 : Int32) (s1 : Int32) (h : MH) : Option (Int32 × MH) := k38 l1 l2 l3 l4 (s1 ||| s0) (l6 + (1 : Int32)) h
set_option maxRecDepth 20000 in
set_option maxHeartbeats 4000000 in
theorem w_X11_joinAnyTwo_76 {d : Nat} {V : Nat → List (Nat × Value) → List Value → MH → Prop} {r : Int32} {hz : MH} {k10 : Int32 → Option Nat → Int32 → MH → Option (Int32 × MH)} {k23 : Int32 → Option Nat → Int32 → Int32 → MH → Option (Int32 × MH)} {k38 : Int32 → Option Nat → Int32 → Int32 → Int32 → Int32 → MH → Option (Int32 × MH)} (hd : 2 ≤ d) (C : mm_C d yX11_joinAnyTwo cX11_joinAnyTwo 7 (some .boolean) (.inr (some (.int r))) hz V) (q10 : ∀ (x0 : Int32) (x1 : Option Nat) (x2 : Int32) (h : MH), k10 x0 x1 x2 h = some (r, hz) → V 10 [(1, .int x0), (2, va_rf x1), (3, .int x2)] [] h) (q23 : ∀ (x0 : Int32) (x1 : Option Nat) (x2 : Int32) (x3 : Int32) (h : MH), k23 x0 x1 x2 x3 h = some (r, hz) → V 23 [(1, .int x0), (2, va_rf x1), (3, .int x2), (4, .int x3)] [] h) (q38 : ∀ (x0 : Int32) (x1 : Option Nat) (x2 : Int32) (x3 : Int32) (x4 : Int32) (x5 : Int32) (h : MH), k38 x0 x1 x2 x3 x4 x5 h = some (r, hz) → V 38 [(1, .int x0), (2, va_rf x1), (3, .int x2), (4, .int x3), (5, .int x4), (6, .int x5)] [] h) (l1 : Int32) (l2 : Option Nat) (l3 : Int32) (l4 : Int32) (l6 : Int32) (s0 : Int32) (s1 : Int32) (h : MH) (hK : F_X11_joinAnyTwo_76 k10 k23 k38 l1 l2 l3 l4 l6 s0 s1 h = some (r, hz)) : V 76 [(1, .int l1), (2, va_rf l2), (3, .int l3), (4, .int l4), (6, .int l6)] [.int s0, .int s1] h := by
  unfold F_X11_joinAnyTwo_76 at hK
  refine mm_ior C (pc := 76) dX11_joinAnyTwo_76 ?_
  refine mm_istore C (pc := 77) (i := 5) (lv' := [(5, .int (s1 ||| s0)), (1, .int l1), (2, va_rf l2), (3, .int l3), (4, .int l4), (6, .int l6)]) dX11_joinAnyTwo_77 (by decide) rfl ?_
  refine mm_iinc C (pc := 79) (v := (l6 + (1 : Int32))) (lv' := [(6, .int (l6 + (1 : Int32))), (5, .int (s1 ||| s0)), (1, .int l1), (2, va_rf l2), (3, .int l3), (4, .int l4)]) 5 dX11_joinAnyTwo_79 rfl rfl (by decide) rfl ?_
  refine mm_goto C (pc := 82) (tgt := 38) dX11_joinAnyTwo_82 (by decide) ?_
  refine mm_sub C [2, 3, 4, 5, 1, 0] rfl ?_
  exact q38 _ _ _ _ _ _ _ hK
def F_X11_joinAnyTwo_75 (k10 : Int32 → Option Nat → Int32 → MH → Option (Int32 × MH)) (k23 : Int32 → Option Nat → Int32 → Int32 → MH → Option (Int32 × MH)) (k38 : Int32 → Option Nat → Int32 → Int32 → Int32 → Int32 → MH → Option (Int32 × MH)) (l1 : Int32) (l2 : Option Nat) (l3 : Int32) (l4 : Int32) (l6 : Int32) (s0 : Int32) (h : MH) : Option (Int32 × MH) := F_X11_joinAnyTwo_76 k10 k23 k38 l1 l2 l3 l4 l6 (0 : Int32) s0 h
set_option maxRecDepth 20000 in
set_option maxHeartbeats 4000000 in
theorem w_X11_joinAnyTwo_75 {d : Nat} {V : Nat → List (Nat × Value) → List Value → MH → Prop} {r : Int32} {hz : MH} {k10 : Int32 → Option Nat → Int32 → MH → Option (Int32 × MH)} {k23 : Int32 → Option Nat → Int32 → Int32 → MH → Option (Int32 × MH)} {k38 : Int32 → Option Nat → Int32 → Int32 → Int32 → Int32 → MH → Option (Int32 × MH)} (hd : 2 ≤ d) (C : mm_C d yX11_joinAnyTwo cX11_joinAnyTwo 7 (some .boolean) (.inr (some (.int r))) hz V) (q10 : ∀ (x0 : Int32) (x1 : Option Nat) (x2 : Int32) (h : MH), k10 x0 x1 x2 h = some (r, hz) → V 10 [(1, .int x0), (2, va_rf x1), (3, .int x2)] [] h) (q23 : ∀ (x0 : Int32) (x1 : Option Nat) (x2 : Int32) (x3 : Int32) (h : MH), k23 x0 x1 x2 x3 h = some (r, hz) → V 23 [(1, .int x0), (2, va_rf x1), (3, .int x2), (4, .int x3)] [] h) (q38 : ∀ (x0 : Int32) (x1 : Option Nat) (x2 : Int32) (x3 : Int32) (x4 : Int32) (x5 : Int32) (h : MH), k38 x0 x1 x2 x3 x4 x5 h = some (r, hz) → V 38 [(1, .int x0), (2, va_rf x1), (3, .int x2), (4, .int x3), (5, .int x4), (6, .int x5)] [] h) (l1 : Int32) (l2 : Option Nat) (l3 : Int32) (l4 : Int32) (l6 : Int32) (s0 : Int32) (h : MH) (hK : F_X11_joinAnyTwo_75 k10 k23 k38 l1 l2 l3 l4 l6 s0 h = some (r, hz)) : V 75 [(1, .int l1), (2, va_rf l2), (3, .int l3), (4, .int l4), (6, .int l6)] [.int s0] h := by
  unfold F_X11_joinAnyTwo_75 at hK
  refine mm_iconst C (pc := 75) (v := (0 : Int32)) dX11_joinAnyTwo_75 (by decide) ?_
  exact w_X11_joinAnyTwo_76 hd C (fun z0 z1 z2 z3 hK => q10 z0 z1 z2 z3 hK) (fun z0 z1 z2 z3 z4 hK => q23 z0 z1 z2 z3 z4 hK) (fun z0 z1 z2 z3 z4 z5 z6 hK => q38 z0 z1 z2 z3 z4 z5 z6 hK) _ _ _ _ _ _ _ _ hK
def F_X11_joinAnyTwo_38 (k10 : Int32 → Option Nat → Int32 → MH → Option (Int32 × MH)) (k23 : Int32 → Option Nat → Int32 → Int32 → MH → Option (Int32 × MH)) : Nat → Int32 → Option Nat → Int32 → Int32 → Int32 → Int32 → MH → Option (Int32 × MH)
  | 0 => fun _ _ _ _ _ _ _ => none
  | n + 1 => fun l1 l2 l3 l4 l5 l6 h => (gI h l2 8 1).bind fun v41 => if v41 ≤ l6 then (if l5 = 0 then (rZ (0 : Int32) h) else (k23 l1 l2 l3 (l4 + (1 : Int32)) h)) else (if ((l1 >>> (l6 &&& 31)) &&& (1 : Int32)) = (1 : Int32) then (mm_b2 (cV h l2 8 (F_X8_reaches l2 l6 l3 l4 h)) fun v65 h65 => if v65 = 0 then (F_X11_joinAnyTwo_75 k10 k23 (F_X11_joinAnyTwo_38 k10 k23 n) l1 l2 l3 l4 l6 l5 h65) else (F_X11_joinAnyTwo_76 k10 k23 (F_X11_joinAnyTwo_38 k10 k23 n) l1 l2 l3 l4 l6 (1 : Int32) l5 h65)) else (F_X11_joinAnyTwo_75 k10 k23 (F_X11_joinAnyTwo_38 k10 k23 n) l1 l2 l3 l4 l6 l5 h))
set_option maxRecDepth 20000 in
set_option maxHeartbeats 4000000 in
theorem w_X11_joinAnyTwo_38 {d : Nat} {V : Nat → List (Nat × Value) → List Value → MH → Prop} {r : Int32} {hz : MH} {k10 : Int32 → Option Nat → Int32 → MH → Option (Int32 × MH)} {k23 : Int32 → Option Nat → Int32 → Int32 → MH → Option (Int32 × MH)} (hd : 2 ≤ d) (C : mm_C d yX11_joinAnyTwo cX11_joinAnyTwo 7 (some .boolean) (.inr (some (.int r))) hz V) (q10 : ∀ (x0 : Int32) (x1 : Option Nat) (x2 : Int32) (h : MH), k10 x0 x1 x2 h = some (r, hz) → V 10 [(1, .int x0), (2, va_rf x1), (3, .int x2)] [] h) (q23 : ∀ (x0 : Int32) (x1 : Option Nat) (x2 : Int32) (x3 : Int32) (h : MH), k23 x0 x1 x2 x3 h = some (r, hz) → V 23 [(1, .int x0), (2, va_rf x1), (3, .int x2), (4, .int x3)] [] h) : ∀ (n : Nat) (l1 : Int32) (l2 : Option Nat) (l3 : Int32) (l4 : Int32) (l5 : Int32) (l6 : Int32) (h : MH), F_X11_joinAnyTwo_38 k10 k23 n l1 l2 l3 l4 l5 l6 h = some (r, hz) → V 38 [(1, .int l1), (2, va_rf l2), (3, .int l3), (4, .int l4), (5, .int l5), (6, .int l6)] [] h := by
  intro n
  induction n with
  | zero => intro l1 l2 l3 l4 l5 l6 h hK; cases hK
  | succ n ih =>
    intro l1 l2 l3 l4 l5 l6 h hK
    replace hK : ((gI h l2 8 1).bind fun v41 => if v41 ≤ l6 then (if l5 = 0 then (rZ (0 : Int32) h) else (k23 l1 l2 l3 (l4 + (1 : Int32)) h)) else (if ((l1 >>> (l6 &&& 31)) &&& (1 : Int32)) = (1 : Int32) then (mm_b2 (cV h l2 8 (F_X8_reaches l2 l6 l3 l4 h)) fun v65 h65 => if v65 = 0 then (F_X11_joinAnyTwo_75 k10 k23 (F_X11_joinAnyTwo_38 k10 k23 n) l1 l2 l3 l4 l6 l5 h65) else (F_X11_joinAnyTwo_76 k10 k23 (F_X11_joinAnyTwo_38 k10 k23 n) l1 l2 l3 l4 l6 (1 : Int32) l5 h65)) else (F_X11_joinAnyTwo_75 k10 k23 (F_X11_joinAnyTwo_38 k10 k23 n) l1 l2 l3 l4 l6 l5 h))) = some (r, hz) := hK
    refine mm_iload C (pc := 38) 5 dX11_joinAnyTwo_38 rfl ?_
    refine mm_aload_n C (pc := 40) 1 dX11_joinAnyTwo_40 rfl ?_
    replace hK := mm_bd hK; obtain ⟨v41, e41, hK⟩ := hK
    refine mm_geti C (pc := 41) (k := 1) inGX8 rfl (by decide) wd_779 dX11_joinAnyTwo_41 e41 ?_
    refine mm_icmp_ge C (pc := 44) (tgt := 85) dX11_joinAnyTwo_44 (by decide) (fun hc => ?_) (fun hc => ?_)
    · replace hK := mm_ip hc hK
      refine mm_iload C (pc := 85) 4 dX11_joinAnyTwo_85 rfl ?_
      refine mm_if_ne C (pc := 87) (tgt := 92) dX11_joinAnyTwo_87 (by decide) (fun hc => ?_) (fun hc => ?_)
      · replace hK := mm_in hc hK
        refine mm_iinc C (pc := 92) (v := (l4 + (1 : Int32))) (lv' := [(4, .int (l4 + (1 : Int32))), (1, .int l1), (2, va_rf l2), (3, .int l3), (5, .int l5), (6, .int l6)]) 3 dX11_joinAnyTwo_92 rfl rfl (by decide) rfl ?_
        refine mm_goto C (pc := 95) (tgt := 23) dX11_joinAnyTwo_95 (by decide) ?_
        refine mm_sub C [1, 2, 3, 0] rfl ?_
        exact q23 _ _ _ _ _ hK
      · replace hK := mm_ip hc hK
        refine mm_iconst C (pc := 90) (v := (0 : Int32)) dX11_joinAnyTwo_90 (by decide) ?_
        replace hK := rZ_some hK; obtain ⟨hv91, hK⟩ := hK
        cases hK
        exact mm_zret C (pc := 91) rfl (mm_nrZ hv91) dX11_joinAnyTwo_91 rfl rfl
    · replace hK := mm_in hc hK
      refine mm_iload C (pc := 47) 4 dX11_joinAnyTwo_47 rfl ?_
      refine mm_iload_n C (pc := 49) 0 dX11_joinAnyTwo_49 rfl ?_
      refine mm_iload C (pc := 50) 5 dX11_joinAnyTwo_50 rfl ?_
      refine mm_ishr C (pc := 52) dX11_joinAnyTwo_52 ?_
      refine mm_iconst C (pc := 53) (v := (1 : Int32)) dX11_joinAnyTwo_53 (by decide) ?_
      refine mm_iand C (pc := 54) dX11_joinAnyTwo_54 ?_
      refine mm_iconst C (pc := 55) (v := (1 : Int32)) dX11_joinAnyTwo_55 (by decide) ?_
      refine mm_icmp_ne C (pc := 56) (tgt := 75) dX11_joinAnyTwo_56 (by decide) (fun hc => ?_) (fun hc => ?_)
      · replace hK := mm_in hc hK
        refine mm_sub C [0, 1, 2, 3, 5] rfl ?_
        exact w_X11_joinAnyTwo_75 hd C (fun z0 z1 z2 z3 hK => q10 z0 z1 z2 z3 hK) (fun z0 z1 z2 z3 z4 hK => q23 z0 z1 z2 z3 z4 hK) (fun z0 z1 z2 z3 z4 z5 z6 hK => ih z0 z1 z2 z3 z4 z5 z6 hK) _ _ _ _ _ _ _ hK
      · replace hK := mm_ip hc hK
        refine mm_aload_n C (pc := 59) 1 dX11_joinAnyTwo_59 rfl ?_
        refine mm_iload C (pc := 60) 5 dX11_joinAnyTwo_60 rfl ?_
        refine mm_iload_n C (pc := 62) 2 dX11_joinAnyTwo_62 rfl ?_
        refine mm_iload C (pc := 63) 3 dX11_joinAnyTwo_63 rfl ?_
        replace hK := mm_b2s hK; obtain ⟨v65, h65, e65, hK⟩ := hK
        obtain ⟨o65, e65⟩ := cV_some e65
        refine mm_callV C (pc := 65) (d1 := 1) (As := [.int l6, .int l3, .int l4]) (st := [.int l5]) (vk := (some (.int v65))) ((S_X8_reaches (by omega)) e65) tT_X8_reaches o65 (Or.inr ⟨_, rfl, rfl⟩) wd_1092 wd_1052 wd_1053 (by omega) (by decide) rfl (by simp [mm_crf, mm_cti, mm_ctl]) rfl dX11_joinAnyTwo_65 ?_
        show V _ _ (.int v65 :: _) _
        refine mm_if_eq C (pc := 68) (tgt := 75) dX11_joinAnyTwo_68 (by decide) (fun hc => ?_) (fun hc => ?_)
        · replace hK := mm_ip hc hK
          refine mm_sub C [0, 1, 2, 3, 5] rfl ?_
          exact w_X11_joinAnyTwo_75 hd C (fun z0 z1 z2 z3 hK => q10 z0 z1 z2 z3 hK) (fun z0 z1 z2 z3 z4 hK => q23 z0 z1 z2 z3 z4 hK) (fun z0 z1 z2 z3 z4 z5 z6 hK => ih z0 z1 z2 z3 z4 z5 z6 hK) _ _ _ _ _ _ _ hK
        · replace hK := mm_in hc hK
          refine mm_iconst C (pc := 71) (v := (1 : Int32)) dX11_joinAnyTwo_71 (by decide) ?_
          refine mm_goto C (pc := 72) (tgt := 76) dX11_joinAnyTwo_72 (by decide) ?_
          refine mm_sub C [0, 1, 2, 3, 5] rfl ?_
          exact w_X11_joinAnyTwo_76 hd C (fun z0 z1 z2 z3 hK => q10 z0 z1 z2 z3 hK) (fun z0 z1 z2 z3 z4 hK => q23 z0 z1 z2 z3 z4 hK) (fun z0 z1 z2 z3 z4 z5 z6 hK => ih z0 z1 z2 z3 z4 z5 z6 hK) _ _ _ _ _ _ _ _ hK
def F_X11_joinAnyTwo_23 (k10 : Int32 → Option Nat → Int32 → MH → Option (Int32 × MH)) : Nat → Int32 → Option Nat → Int32 → Int32 → MH → Option (Int32 × MH)
  | 0 => fun _ _ _ _ _ => none
  | n + 1 => fun l1 l2 l3 l4 h => (gI h l2 8 0).bind fun v26 => if v26 ≤ l4 then (k10 l1 l2 (l3 + (1 : Int32)) h) else (F_X11_joinAnyTwo_38 k10 (F_X11_joinAnyTwo_23 k10 n) mm_N l1 l2 l3 l4 (0 : Int32) (0 : Int32) h)
set_option maxRecDepth 20000 in
set_option maxHeartbeats 4000000 in
theorem w_X11_joinAnyTwo_23 {d : Nat} {V : Nat → List (Nat × Value) → List Value → MH → Prop} {r : Int32} {hz : MH} {k10 : Int32 → Option Nat → Int32 → MH → Option (Int32 × MH)} (hd : 2 ≤ d) (C : mm_C d yX11_joinAnyTwo cX11_joinAnyTwo 7 (some .boolean) (.inr (some (.int r))) hz V) (q10 : ∀ (x0 : Int32) (x1 : Option Nat) (x2 : Int32) (h : MH), k10 x0 x1 x2 h = some (r, hz) → V 10 [(1, .int x0), (2, va_rf x1), (3, .int x2)] [] h) : ∀ (n : Nat) (l1 : Int32) (l2 : Option Nat) (l3 : Int32) (l4 : Int32) (h : MH), F_X11_joinAnyTwo_23 k10 n l1 l2 l3 l4 h = some (r, hz) → V 23 [(1, .int l1), (2, va_rf l2), (3, .int l3), (4, .int l4)] [] h := by
  intro n
  induction n with
  | zero => intro l1 l2 l3 l4 h hK; cases hK
  | succ n ih =>
    intro l1 l2 l3 l4 h hK
    replace hK : ((gI h l2 8 0).bind fun v26 => if v26 ≤ l4 then (k10 l1 l2 (l3 + (1 : Int32)) h) else (F_X11_joinAnyTwo_38 k10 (F_X11_joinAnyTwo_23 k10 n) mm_N l1 l2 l3 l4 (0 : Int32) (0 : Int32) h)) = some (r, hz) := hK
    refine mm_iload C (pc := 23) 3 dX11_joinAnyTwo_23 rfl ?_
    refine mm_aload_n C (pc := 25) 1 dX11_joinAnyTwo_25 rfl ?_
    replace hK := mm_bd hK; obtain ⟨v26, e26, hK⟩ := hK
    refine mm_geti C (pc := 26) (k := 0) inGX8 rfl (by decide) wd_776 dX11_joinAnyTwo_26 e26 ?_
    refine mm_icmp_ge C (pc := 29) (tgt := 98) dX11_joinAnyTwo_29 (by decide) (fun hc => ?_) (fun hc => ?_)
    · replace hK := mm_ip hc hK
      refine mm_iinc C (pc := 98) (v := (l3 + (1 : Int32))) (lv' := [(3, .int (l3 + (1 : Int32))), (1, .int l1), (2, va_rf l2), (4, .int l4)]) 2 dX11_joinAnyTwo_98 rfl rfl (by decide) (by simp [mm_crf]) ?_
      refine mm_goto C (pc := 101) (tgt := 10) dX11_joinAnyTwo_101 (by decide) ?_
      refine mm_sub C [1, 2, 0] rfl ?_
      exact q10 _ _ _ _ hK
    · replace hK := mm_in hc hK
      refine mm_iconst C (pc := 32) (v := (0 : Int32)) dX11_joinAnyTwo_32 (by decide) ?_
      refine mm_istore C (pc := 33) (i := 5) (lv' := [(5, .int (0 : Int32)), (1, .int l1), (2, va_rf l2), (3, .int l3), (4, .int l4)]) dX11_joinAnyTwo_33 (by decide) rfl ?_
      refine mm_iconst C (pc := 35) (v := (0 : Int32)) dX11_joinAnyTwo_35 (by decide) ?_
      refine mm_istore C (pc := 36) (i := 6) (lv' := [(6, .int (0 : Int32)), (5, .int (0 : Int32)), (1, .int l1), (2, va_rf l2), (3, .int l3), (4, .int l4)]) dX11_joinAnyTwo_36 (by decide) rfl ?_
      refine mm_sub C [2, 3, 4, 5, 1, 0] rfl ?_
      exact w_X11_joinAnyTwo_38 hd C (fun z0 z1 z2 z3 hK => q10 z0 z1 z2 z3 hK) (fun z0 z1 z2 z3 z4 hK => ih z0 z1 z2 z3 z4 hK) _ _ _ _ _ _ _ _ hK
def F_X11_joinAnyTwo_10 : Nat → Int32 → Option Nat → Int32 → MH → Option (Int32 × MH)
  | 0 => fun _ _ _ _ => none
  | n + 1 => fun l1 l2 l3 h => (gI h l2 8 0).bind fun v12 => if v12 ≤ l3 then (rZ (1 : Int32) h) else (F_X11_joinAnyTwo_23 (F_X11_joinAnyTwo_10 n) mm_N l1 l2 l3 (l3 + (1 : Int32)) h)
set_option maxRecDepth 20000 in
set_option maxHeartbeats 4000000 in
theorem w_X11_joinAnyTwo_10 {d : Nat} {V : Nat → List (Nat × Value) → List Value → MH → Prop} {r : Int32} {hz : MH} (hd : 2 ≤ d) (C : mm_C d yX11_joinAnyTwo cX11_joinAnyTwo 7 (some .boolean) (.inr (some (.int r))) hz V) : ∀ (n : Nat) (l1 : Int32) (l2 : Option Nat) (l3 : Int32) (h : MH), F_X11_joinAnyTwo_10 n l1 l2 l3 h = some (r, hz) → V 10 [(1, .int l1), (2, va_rf l2), (3, .int l3)] [] h := by
  intro n
  induction n with
  | zero => intro l1 l2 l3 h hK; cases hK
  | succ n ih =>
    intro l1 l2 l3 h hK
    replace hK : ((gI h l2 8 0).bind fun v12 => if v12 ≤ l3 then (rZ (1 : Int32) h) else (F_X11_joinAnyTwo_23 (F_X11_joinAnyTwo_10 n) mm_N l1 l2 l3 (l3 + (1 : Int32)) h)) = some (r, hz) := hK
    refine mm_iload_n C (pc := 10) 2 dX11_joinAnyTwo_10 rfl ?_
    refine mm_aload_n C (pc := 11) 1 dX11_joinAnyTwo_11 rfl ?_
    replace hK := mm_bd hK; obtain ⟨v12, e12, hK⟩ := hK
    refine mm_geti C (pc := 12) (k := 0) inGX8 rfl (by decide) wd_776 dX11_joinAnyTwo_12 e12 ?_
    refine mm_icmp_ge C (pc := 15) (tgt := 104) dX11_joinAnyTwo_15 (by decide) (fun hc => ?_) (fun hc => ?_)
    · replace hK := mm_ip hc hK
      refine mm_iconst C (pc := 104) (v := (1 : Int32)) dX11_joinAnyTwo_104 (by decide) ?_
      replace hK := rZ_some hK; obtain ⟨hv105, hK⟩ := hK
      cases hK
      exact mm_zret C (pc := 105) rfl (mm_nrZ hv105) dX11_joinAnyTwo_105 rfl rfl
    · replace hK := mm_in hc hK
      refine mm_iload_n C (pc := 18) 2 dX11_joinAnyTwo_18 rfl ?_
      refine mm_iconst C (pc := 19) (v := (1 : Int32)) dX11_joinAnyTwo_19 (by decide) ?_
      refine mm_iadd C (pc := 20) dX11_joinAnyTwo_20 ?_
      refine mm_istore C (pc := 21) (i := 4) (lv' := [(4, .int (l3 + (1 : Int32))), (1, .int l1), (2, va_rf l2), (3, .int l3)]) dX11_joinAnyTwo_21 (by decide) rfl ?_
      refine mm_sub C [1, 2, 3, 0] rfl ?_
      exact w_X11_joinAnyTwo_23 hd C (fun z0 z1 z2 z3 hK => ih z0 z1 z2 z3 hK) _ _ _ _ _ _ hK
def F_X11_joinAnyTwo (a0 : Option Nat) (a1 : Int32) (h : MH) : Option (Int32 × MH) := (gR h a0 11 5).bind fun v1 => (gR h v1 0 2).bind fun v4 => F_X11_joinAnyTwo_10 mm_N a1 v4 (0 : Int32) h
set_option maxRecDepth 20000 in
set_option maxHeartbeats 4000000 in
theorem S_X11_joinAnyTwo {d : Nat} (hd : 2 ≤ d) {a0 : Option Nat} {a1 : Int32} {h : MH} {r : Int32} {hz : MH} (hK : F_X11_joinAnyTwo a0 a1 h = some (r, hz)) : mm_M yX11_joinAnyTwo cX11_joinAnyTwo 7 (some .boolean) d [va_rf a0, .int a1] h (.inr (some (.int r))) hz := by
  refine mm_ofV (by decide +kernel) (by simp [lg_sl, mm_crf, mm_cti, mm_ctl]) (fun V C => ?_)
  rw [show lv_args 0 [va_rf a0, .int a1] = [(0, va_rf a0), (1, .int a1)] by simp [lv_args, mm_crf, mm_cti, mm_ctl]]
  unfold F_X11_joinAnyTwo at hK
  refine mm_aload_n C (pc := 0) 0 dX11_joinAnyTwo_0 rfl ?_
  replace hK := mm_bd hK; obtain ⟨v1, e1, hK⟩ := hK
  refine mm_getr C (pc := 1) (k := 5) inGX11 rfl (by decide) wd_850 dX11_joinAnyTwo_1 e1 ?_
  replace hK := mm_bd hK; obtain ⟨v4, e4, hK⟩ := hK
  refine mm_getr C (pc := 4) (k := 2) inGX0 rfl (by decide) wd_819 dX11_joinAnyTwo_4 e4 ?_
  refine mm_astore_n C (pc := 7) (i := 2) (lv' := [(2, va_rf v4), (0, va_rf a0), (1, .int a1)]) dX11_joinAnyTwo_7 rfl (by decide) rfl ?_
  refine mm_iconst C (pc := 8) (v := (0 : Int32)) dX11_joinAnyTwo_8 (by decide) ?_
  refine mm_istore_n C (pc := 9) (i := 3) (lv' := [(3, .int (0 : Int32)), (2, va_rf v4), (0, va_rf a0), (1, .int a1)]) dX11_joinAnyTwo_9 rfl (by decide) (by simp [mm_crf]) ?_
  refine mm_sub C [3, 1, 0] rfl ?_
  exact w_X11_joinAnyTwo_10 hd C _ _ _ _ _ hK
theorem wd_1082 : Cond.methodLink RX11 308 yJ6_bitCount_0f7a4 ∈ lw_good := mm_wd 1082 (by decide +kernel) (by decide +kernel)
theorem wd_1091 : Cond.code yX11_joinAnyTwo cX11_joinAnyTwo 7 (some .boolean) ∈ lw_good := mm_wd 1091 (by decide +kernel) (by decide +kernel)
theorem tT_X11_joinAnyTwo : mm_T yX11_joinAnyTwo cX11_joinAnyTwo 7 (some .boolean) 1 := ⟨wd_1091, wd_142, by decide +kernel, by decide +kernel, by decide +kernel, by decide +kernel⟩
theorem wd_1088 : Cond.methodLink RX11 313 yX11_joinAnyTwo ∈ lw_good := mm_wd 1088 (by decide +kernel) (by decide +kernel)
theorem wd_1090 : Cond.instanceMethod yX11_joinAnyTwo ∈ lw_good := mm_wd 1090 (by decide +kernel) (by decide +kernel)
theorem wd_12 : Cond.selects RX11 yX11_joinAnyTwo yX11_joinAnyTwo ∈ lw_good := mm_wd 12 (by decide +kernel) (by decide +kernel)
def F_X11_enough_50 (k15 : Option Nat → Int32 → Int32 → Int32 → MH → Option (Int32 × MH)) (l0 : Option Nat) (l1 : Int32) (l2 : Int32) (l3 : Int32) (h : MH) : Option (Int32 × MH) := k15 l0 l1 l2 (l3 + (1 : Int32)) h
set_option maxRecDepth 20000 in
set_option maxHeartbeats 4000000 in
theorem w_X11_enough_50 {d : Nat} {V : Nat → List (Nat × Value) → List Value → MH → Prop} {r : Int32} {hz : MH} {k15 : Option Nat → Int32 → Int32 → Int32 → MH → Option (Int32 × MH)} (hd : 3 ≤ d) (C : mm_C d yX11_enough cX11_enough 5 (some .int) (.inr (some (.int r))) hz V) (q15 : ∀ (x0 : Option Nat) (x1 : Int32) (x2 : Int32) (x3 : Int32) (h : MH), k15 x0 x1 x2 x3 h = some (r, hz) → V 15 [(0, va_rf x0), (1, .int x1), (2, .int x2), (3, .int x3)] [] h) (l0 : Option Nat) (l1 : Int32) (l2 : Int32) (l3 : Int32) (h : MH) (hK : F_X11_enough_50 k15 l0 l1 l2 l3 h = some (r, hz)) : V 50 [(0, va_rf l0), (1, .int l1), (2, .int l2), (3, .int l3)] [] h := by
  unfold F_X11_enough_50 at hK
  refine mm_iinc C (pc := 50) (v := (l3 + (1 : Int32))) (lv' := [(3, .int (l3 + (1 : Int32))), (0, va_rf l0), (1, .int l1), (2, .int l2)]) 3 dX11_enough_50 rfl rfl (by decide) rfl ?_
  refine mm_goto C (pc := 53) (tgt := 15) dX11_enough_53 (by decide) ?_
  refine mm_sub C [1, 2, 3, 0] rfl ?_
  exact q15 _ _ _ _ _ hK
def F_X11_enough_39 (k15 : Option Nat → Int32 → Int32 → Int32 → MH → Option (Int32 × MH)) (l0 : Option Nat) (l1 : Int32) (l2 : Int32) (l3 : Int32) (l4 : Int32) (h : MH) : Option (Int32 × MH) := mm_b2 (cV h l0 11 (F_X11_joinAnyTwo l0 l3 h)) fun v41 h41 => if v41 = 0 then (F_X11_enough_50 k15 l0 l1 l2 l3 h41) else (F_X11_enough_50 k15 l0 l1 l4 l3 h41)
set_option maxRecDepth 20000 in
set_option maxHeartbeats 4000000 in
theorem w_X11_enough_39 {d : Nat} {V : Nat → List (Nat × Value) → List Value → MH → Prop} {r : Int32} {hz : MH} {k15 : Option Nat → Int32 → Int32 → Int32 → MH → Option (Int32 × MH)} (hd : 3 ≤ d) (C : mm_C d yX11_enough cX11_enough 5 (some .int) (.inr (some (.int r))) hz V) (q15 : ∀ (x0 : Option Nat) (x1 : Int32) (x2 : Int32) (x3 : Int32) (h : MH), k15 x0 x1 x2 x3 h = some (r, hz) → V 15 [(0, va_rf x0), (1, .int x1), (2, .int x2), (3, .int x3)] [] h) (l0 : Option Nat) (l1 : Int32) (l2 : Int32) (l3 : Int32) (l4 : Int32) (h : MH) (hK : F_X11_enough_39 k15 l0 l1 l2 l3 l4 h = some (r, hz)) : V 39 [(0, va_rf l0), (1, .int l1), (2, .int l2), (3, .int l3), (4, .int l4)] [] h := by
  unfold F_X11_enough_39 at hK
  refine mm_aload_n C (pc := 39) 0 dX11_enough_39 rfl ?_
  refine mm_iload_n C (pc := 40) 3 dX11_enough_40 rfl ?_
  replace hK := mm_b2s hK; obtain ⟨v41, h41, e41, hK⟩ := hK
  obtain ⟨o41, e41⟩ := cV_some e41
  refine mm_callV C (pc := 41) (d1 := 2) (As := [.int l3]) (st := []) (vk := (some (.int v41))) ((S_X11_joinAnyTwo (by omega)) e41) tT_X11_joinAnyTwo o41 (Or.inr ⟨_, rfl, rfl⟩) wd_1088 wd_1090 wd_12 (by omega) (by decide) rfl (by simp [mm_crf, mm_cti, mm_ctl]) rfl dX11_enough_41 ?_
  show V _ _ (.int v41 :: _) _
  refine mm_if_eq C (pc := 44) (tgt := 50) dX11_enough_44 (by decide) (fun hc => ?_) (fun hc => ?_)
  · replace hK := mm_ip hc hK
    refine mm_sub C [0, 1, 2, 3] rfl ?_
    exact w_X11_enough_50 hd C (fun z0 z1 z2 z3 z4 hK => q15 z0 z1 z2 z3 z4 hK) _ _ _ _ _ hK
  · replace hK := mm_in hc hK
    refine mm_iload C (pc := 47) 4 dX11_enough_47 rfl ?_
    refine mm_istore_n C (pc := 49) (i := 2) (lv' := [(2, .int l4), (0, va_rf l0), (1, .int l1), (3, .int l3), (4, .int l4)]) dX11_enough_49 rfl (by decide) rfl ?_
    refine mm_sub C [1, 2, 0, 3] rfl ?_
    exact w_X11_enough_50 hd C (fun z0 z1 z2 z3 z4 hK => q15 z0 z1 z2 z3 z4 hK) _ _ _ _ _ hK
def F_X11_enough_15 : Nat → Option Nat → Int32 → Int32 → Int32 → MH → Option (Int32 × MH)
  | 0 => fun _ _ _ _ _ => none
  | n + 1 => fun l0 l1 l2 l3 h => if ((1 : Int32) <<< (l1 &&& 31)) ≤ l3 then (some (l2, h)) else (mm_b2 (F_J6_bitCount_0f7a4 l3 h) fun v23 h23 => if l2 = ((-1) : Int32) then (F_X11_enough_39 (F_X11_enough_15 n) l0 l1 l2 l3 v23 h23) else (if l2 ≤ v23 then (F_X11_enough_50 (F_X11_enough_15 n) l0 l1 l2 l3 h23) else (F_X11_enough_39 (F_X11_enough_15 n) l0 l1 l2 l3 v23 h23)))
set_option maxRecDepth 20000 in
set_option maxHeartbeats 4000000 in
theorem w_X11_enough_15 {d : Nat} {V : Nat → List (Nat × Value) → List Value → MH → Prop} {r : Int32} {hz : MH} (hd : 3 ≤ d) (C : mm_C d yX11_enough cX11_enough 5 (some .int) (.inr (some (.int r))) hz V) : ∀ (n : Nat) (l0 : Option Nat) (l1 : Int32) (l2 : Int32) (l3 : Int32) (h : MH), F_X11_enough_15 n l0 l1 l2 l3 h = some (r, hz) → V 15 [(0, va_rf l0), (1, .int l1), (2, .int l2), (3, .int l3)] [] h := by
  intro n
  induction n with
  | zero => intro l0 l1 l2 l3 h hK; cases hK
  | succ n ih =>
    intro l0 l1 l2 l3 h hK
    replace hK : (if ((1 : Int32) <<< (l1 &&& 31)) ≤ l3 then (some (l2, h)) else (mm_b2 (F_J6_bitCount_0f7a4 l3 h) fun v23 h23 => if l2 = ((-1) : Int32) then (F_X11_enough_39 (F_X11_enough_15 n) l0 l1 l2 l3 v23 h23) else (if l2 ≤ v23 then (F_X11_enough_50 (F_X11_enough_15 n) l0 l1 l2 l3 h23) else (F_X11_enough_39 (F_X11_enough_15 n) l0 l1 l2 l3 v23 h23)))) = some (r, hz) := hK
    refine mm_iload_n C (pc := 15) 3 dX11_enough_15 rfl ?_
    refine mm_iconst C (pc := 16) (v := (1 : Int32)) dX11_enough_16 (by decide) ?_
    refine mm_iload_n C (pc := 17) 1 dX11_enough_17 rfl ?_
    refine mm_ishl C (pc := 18) dX11_enough_18 ?_
    refine mm_icmp_ge C (pc := 19) (tgt := 56) dX11_enough_19 (by decide) (fun hc => ?_) (fun hc => ?_)
    · replace hK := mm_ip hc hK
      refine mm_iload_n C (pc := 56) 2 dX11_enough_56 rfl ?_
      cases hK
      exact mm_iret C (pc := 57) rfl dX11_enough_57 rfl rfl
    · replace hK := mm_in hc hK
      refine mm_iload_n C (pc := 22) 3 dX11_enough_22 rfl ?_
      replace hK := mm_b2s hK; obtain ⟨v23, h23, e23, hK⟩ := hK
      refine mm_callS C (pc := 23) (d1 := 1) (As := [.int l3]) (st := []) (vk := (some (.int v23))) ((S_J6_bitCount_0f7a4 (by omega)) e23) tT_J6_bitCount_0f7a4 wd_1082 wd_1083 (by omega) (by decide) rfl (by simp [mm_crf, mm_cti, mm_ctl]) rfl dX11_enough_23 ?_
      show V _ _ (.int v23 :: _) _
      refine mm_istore C (pc := 26) (i := 4) (lv' := [(4, .int v23), (0, va_rf l0), (1, .int l1), (2, .int l2), (3, .int l3)]) dX11_enough_26 (by decide) rfl ?_
      refine mm_iload_n C (pc := 28) 3 dX11_enough_28 rfl ?_
      refine mm_iconst C (pc := 29) (v := ((-1) : Int32)) dX11_enough_29 (by decide) ?_
      refine mm_icmp_eq C (pc := 30) (tgt := 39) dX11_enough_30 (by decide) (fun hc => ?_) (fun hc => ?_)
      · replace hK := mm_ip hc hK
        refine mm_sub C [1, 2, 3, 4, 0] rfl ?_
        exact w_X11_enough_39 hd C (fun z0 z1 z2 z3 z4 hK => ih z0 z1 z2 z3 z4 hK) _ _ _ _ _ _ hK
      · replace hK := mm_in hc hK
        refine mm_iload C (pc := 33) 0 dX11_enough_33 rfl ?_
        refine mm_iload_n C (pc := 35) 3 dX11_enough_35 rfl ?_
        refine mm_icmp_ge C (pc := 36) (tgt := 50) dX11_enough_36 (by decide) (fun hc => ?_) (fun hc => ?_)
        · replace hK := mm_ip hc hK
          refine mm_sub C [1, 2, 3, 4] rfl ?_
          exact w_X11_enough_50 hd C (fun z0 z1 z2 z3 z4 hK => ih z0 z1 z2 z3 z4 hK) _ _ _ _ _ hK
        · replace hK := mm_in hc hK
          refine mm_sub C [1, 2, 3, 4, 0] rfl ?_
          exact w_X11_enough_39 hd C (fun z0 z1 z2 z3 z4 hK => ih z0 z1 z2 z3 z4 hK) _ _ _ _ _ _ hK
def F_X11_enough (a0 : Option Nat) (h : MH) : Option (Int32 × MH) := (gR h a0 11 5).bind fun v1 => (gR h v1 0 2).bind fun v4 => (gI h v4 8 1).bind fun v7 => F_X11_enough_15 mm_N a0 v7 ((-1) : Int32) (1 : Int32) h
set_option maxRecDepth 20000 in
set_option maxHeartbeats 4000000 in
theorem S_X11_enough {d : Nat} (hd : 3 ≤ d) {a0 : Option Nat} {h : MH} {r : Int32} {hz : MH} (hK : F_X11_enough a0 h = some (r, hz)) : mm_M yX11_enough cX11_enough 5 (some .int) d [va_rf a0] h (.inr (some (.int r))) hz := by
  refine mm_ofV (by decide +kernel) (by simp [lg_sl, mm_crf, mm_cti, mm_ctl]) (fun V C => ?_)
  rw [show lv_args 0 [va_rf a0] = [(0, va_rf a0)] by simp [lv_args, mm_crf, mm_cti, mm_ctl]]
  unfold F_X11_enough at hK
  refine mm_aload_n C (pc := 0) 0 dX11_enough_0 rfl ?_
  replace hK := mm_bd hK; obtain ⟨v1, e1, hK⟩ := hK
  refine mm_getr C (pc := 1) (k := 5) inGX11 rfl (by decide) wd_850 dX11_enough_1 e1 ?_
  replace hK := mm_bd hK; obtain ⟨v4, e4, hK⟩ := hK
  refine mm_getr C (pc := 4) (k := 2) inGX0 rfl (by decide) wd_819 dX11_enough_4 e4 ?_
  replace hK := mm_bd hK; obtain ⟨v7, e7, hK⟩ := hK
  refine mm_geti C (pc := 7) (k := 1) inGX8 rfl (by decide) wd_779 dX11_enough_7 e7 ?_
  refine mm_istore_n C (pc := 10) (i := 1) (lv' := [(1, .int v7), (0, va_rf a0)]) dX11_enough_10 rfl (by decide) (by simp [mm_crf]) ?_
  refine mm_iconst C (pc := 11) (v := ((-1) : Int32)) dX11_enough_11 (by decide) ?_
  refine mm_istore_n C (pc := 12) (i := 2) (lv' := [(2, .int ((-1) : Int32)), (1, .int v7), (0, va_rf a0)]) dX11_enough_12 rfl (by decide) rfl ?_
  refine mm_iconst C (pc := 13) (v := (1 : Int32)) dX11_enough_13 (by decide) ?_
  refine mm_istore_n C (pc := 14) (i := 3) (lv' := [(3, .int (1 : Int32)), (2, .int ((-1) : Int32)), (1, .int v7), (0, va_rf a0)]) dX11_enough_14 rfl (by decide) rfl ?_
  refine mm_sub C [3, 2, 1, 0] rfl ?_
  exact w_X11_enough_15 hd C _ _ _ _ _ _ hK
def F_X11_needLinesIn_40 (h : MH) : Option ((String ⊕ Unit) × MH) := (tH h).bind fun h40 => some (.inl "java/lang/IllegalArgumentException", h40)
set_option maxRecDepth 20000 in
set_option maxHeartbeats 4000000 in
theorem w_X11_needLinesIn_40 {d : Nat} {V : Nat → List (Nat × Value) → List Value → MH → Prop} {r : String ⊕ Unit} {hz : MH} (hd : 6 ≤ d) (C : mm_C d yX11_needLinesIn cX11_needLinesIn 3 none (mm_ov r) hz V) (h : MH) (hK : F_X11_needLinesIn_40  h = some (r, hz)) : V 40 [] [] h := by
  unfold F_X11_needLinesIn_40 at hK
  replace hK := mm_bd hK; obtain ⟨h40, e40, hK⟩ := hK
  cases hK
  exact mm_throwW C (pc := 40) (i := 27) tW_X11_264_268 (by rfl) dX11_needLinesIn_40 dX11_needLinesIn_43 dX11_needLinesIn_44 dX11_needLinesIn_47 dX11_needLinesIn_50 (by omega) (by simp [mm_crf, mm_cti, mm_ctl]) rfl e40
def F_X11_needLinesIn_2 : Nat → Option Nat → Option Nat → Int32 → MH → Option ((String ⊕ Unit) × MH)
  | 0 => fun _ _ _ _ => none
  | n + 1 => fun l0 l1 l2 h => mm_b2 (cV h l1 10 (F_X10_many l1 h)) fun v4 h4 => if v4 ≤ l2 then (some (.inr (), h4)) else (mm_b2 (cV h4 l1 10 (F_X10_at l1 l2 h4)) fun v12 h12 => if (lg_cmp v12 (0 : Int64)) < 0 then (F_X11_needLinesIn_40 h12) else (mm_b2 (cV h12 l1 10 (F_X10_at l1 l2 h12)) fun v22 h22 => (gR h22 l0 11 5).bind fun v26 => (gR h22 v26 0 2).bind fun v29 => (gI h22 v29 8 0).bind fun v32 => if (lg_cmp v22 (v32.toInt64)) < 0 then (F_X11_needLinesIn_2 n l0 l1 (l2 + (1 : Int32)) h22) else (F_X11_needLinesIn_40 h22)))
set_option maxRecDepth 20000 in
set_option maxHeartbeats 4000000 in
theorem w_X11_needLinesIn_2 {d : Nat} {V : Nat → List (Nat × Value) → List Value → MH → Prop} {r : String ⊕ Unit} {hz : MH} (hd : 6 ≤ d) (C : mm_C d yX11_needLinesIn cX11_needLinesIn 3 none (mm_ov r) hz V) : ∀ (n : Nat) (l0 : Option Nat) (l1 : Option Nat) (l2 : Int32) (h : MH), F_X11_needLinesIn_2 n l0 l1 l2 h = some (r, hz) → V 2 [(0, va_rf l0), (1, va_rf l1), (2, .int l2)] [] h := by
  intro n
  induction n with
  | zero => intro l0 l1 l2 h hK; cases hK
  | succ n ih =>
    intro l0 l1 l2 h hK
    replace hK : (mm_b2 (cV h l1 10 (F_X10_many l1 h)) fun v4 h4 => if v4 ≤ l2 then (some (.inr (), h4)) else (mm_b2 (cV h4 l1 10 (F_X10_at l1 l2 h4)) fun v12 h12 => if (lg_cmp v12 (0 : Int64)) < 0 then (F_X11_needLinesIn_40 h12) else (mm_b2 (cV h12 l1 10 (F_X10_at l1 l2 h12)) fun v22 h22 => (gR h22 l0 11 5).bind fun v26 => (gR h22 v26 0 2).bind fun v29 => (gI h22 v29 8 0).bind fun v32 => if (lg_cmp v22 (v32.toInt64)) < 0 then (F_X11_needLinesIn_2 n l0 l1 (l2 + (1 : Int32)) h22) else (F_X11_needLinesIn_40 h22)))) = some (r, hz) := hK
    refine mm_iload_n C (pc := 2) 2 dX11_needLinesIn_2 rfl ?_
    refine mm_aload_n C (pc := 3) 1 dX11_needLinesIn_3 rfl ?_
    replace hK := mm_b2s hK; obtain ⟨v4, h4, e4, hK⟩ := hK
    obtain ⟨o4, e4⟩ := cV_some e4
    refine mm_callV C (pc := 4) (d1 := 1) (As := []) (st := [.int l2]) (vk := (some (.int v4))) ((S_X10_many (by omega)) e4) tT_X10_many o4 (Or.inr ⟨_, rfl, rfl⟩) wd_1570 wd_1571 wd_1572 (by omega) (by decide) rfl (by simp [mm_crf, mm_cti, mm_ctl]) rfl dX11_needLinesIn_4 ?_
    show V _ _ (.int v4 :: _) _
    refine mm_icmp_ge C (pc := 7) (tgt := 57) dX11_needLinesIn_7 (by decide) (fun hc => ?_) (fun hc => ?_)
    · replace hK := mm_ip hc hK
      cases hK
      exact mm_vret C (pc := 57) rfl dX11_needLinesIn_57 rfl rfl
    · replace hK := mm_in hc hK
      refine mm_aload_n C (pc := 10) 1 dX11_needLinesIn_10 rfl ?_
      refine mm_iload_n C (pc := 11) 2 dX11_needLinesIn_11 rfl ?_
      replace hK := mm_b2s hK; obtain ⟨v12, h12, e12, hK⟩ := hK
      obtain ⟨o12, e12⟩ := cV_some e12
      refine mm_callV C (pc := 12) (d1 := 2) (As := [.int l2]) (st := []) (vk := (some (.long v12))) ((S_X10_at (by omega)) e12) tT_X10_at o12 (Or.inr ⟨_, rfl, rfl⟩) wd_1575 wd_1576 wd_1577 (by omega) (by decide) rfl (by simp [mm_crf, mm_cti, mm_ctl]) rfl dX11_needLinesIn_12 ?_
      show V _ _ (.long v12 :: _) _
      refine mm_lconst C (pc := 15) (v := (0 : Int64)) dX11_needLinesIn_15 (by decide) ?_
      refine mm_lcmp C (pc := 16) dX11_needLinesIn_16 ?_
      refine mm_if_lt C (pc := 17) (tgt := 40) dX11_needLinesIn_17 (by decide) (fun hc => ?_) (fun hc => ?_)
      · replace hK := mm_ip hc hK
        refine mm_sub C [] rfl ?_
        exact w_X11_needLinesIn_40 hd C _ hK
      · replace hK := mm_in hc hK
        refine mm_aload_n C (pc := 20) 1 dX11_needLinesIn_20 rfl ?_
        refine mm_iload_n C (pc := 21) 2 dX11_needLinesIn_21 rfl ?_
        replace hK := mm_b2s hK; obtain ⟨v22, h22, e22, hK⟩ := hK
        obtain ⟨o22, e22⟩ := cV_some e22
        refine mm_callV C (pc := 22) (d1 := 2) (As := [.int l2]) (st := []) (vk := (some (.long v22))) ((S_X10_at (by omega)) e22) tT_X10_at o22 (Or.inr ⟨_, rfl, rfl⟩) wd_1575 wd_1576 wd_1577 (by omega) (by decide) rfl (by simp [mm_crf, mm_cti, mm_ctl]) rfl dX11_needLinesIn_22 ?_
        show V _ _ (.long v22 :: _) _
        refine mm_aload_n C (pc := 25) 0 dX11_needLinesIn_25 rfl ?_
        replace hK := mm_bd hK; obtain ⟨v26, e26, hK⟩ := hK
        refine mm_getr C (pc := 26) (k := 5) inGX11 rfl (by decide) wd_850 dX11_needLinesIn_26 e26 ?_
        replace hK := mm_bd hK; obtain ⟨v29, e29, hK⟩ := hK
        refine mm_getr C (pc := 29) (k := 2) inGX0 rfl (by decide) wd_819 dX11_needLinesIn_29 e29 ?_
        replace hK := mm_bd hK; obtain ⟨v32, e32, hK⟩ := hK
        refine mm_geti C (pc := 32) (k := 0) inGX8 rfl (by decide) wd_776 dX11_needLinesIn_32 e32 ?_
        refine mm_i2l C (pc := 35) dX11_needLinesIn_35 ?_
        refine mm_lcmp C (pc := 36) dX11_needLinesIn_36 ?_
        refine mm_if_lt C (pc := 37) (tgt := 51) dX11_needLinesIn_37 (by decide) (fun hc => ?_) (fun hc => ?_)
        · replace hK := mm_ip hc hK
          refine mm_iinc C (pc := 51) (v := (l2 + (1 : Int32))) (lv' := [(2, .int (l2 + (1 : Int32))), (0, va_rf l0), (1, va_rf l1)]) 2 dX11_needLinesIn_51 rfl rfl (by decide) (by simp [mm_crf]) ?_
          refine mm_goto C (pc := 54) (tgt := 2) dX11_needLinesIn_54 (by decide) ?_
          refine mm_sub C [1, 2, 0] rfl ?_
          exact ih _ _ _ _ hK
        · replace hK := mm_in hc hK
          refine mm_sub C [] rfl ?_
          exact w_X11_needLinesIn_40 hd C _ hK
def F_X11_needLinesIn (a0 : Option Nat) (a1 : Option Nat) (h : MH) : Option ((String ⊕ Unit) × MH) := F_X11_needLinesIn_2 mm_N a0 a1 (0 : Int32) h
set_option maxRecDepth 20000 in
set_option maxHeartbeats 4000000 in
theorem S_X11_needLinesIn {d : Nat} (hd : 6 ≤ d) {a0 : Option Nat} {a1 : Option Nat} {h : MH} {r : String ⊕ Unit} {hz : MH} (hK : F_X11_needLinesIn a0 a1 h = some (r, hz)) : mm_M yX11_needLinesIn cX11_needLinesIn 3 none d [va_rf a0, va_rf a1] h (mm_ov r) hz := by
  refine mm_ofV (by decide +kernel) (by simp [lg_sl, mm_crf, mm_cti, mm_ctl]) (fun V C => ?_)
  rw [show lv_args 0 [va_rf a0, va_rf a1] = [(0, va_rf a0), (1, va_rf a1)] by simp [lv_args, mm_crf, mm_cti, mm_ctl]]
  unfold F_X11_needLinesIn at hK
  refine mm_iconst C (pc := 0) (v := (0 : Int32)) dX11_needLinesIn_0 (by decide) ?_
  refine mm_istore_n C (pc := 1) (i := 2) (lv' := [(2, .int (0 : Int32)), (0, va_rf a0), (1, va_rf a1)]) dX11_needLinesIn_1 rfl (by decide) (by simp [mm_crf]) ?_
  refine mm_sub C [1, 2, 0] rfl ?_
  exact w_X11_needLinesIn_2 hd C _ _ _ _ _ hK
theorem wd_1763 : Cond.code yX11_needLinesIn cX11_needLinesIn 3 none ∈ lw_good := mm_wd 1763 (by decide +kernel) (by decide +kernel)
theorem tT_X11_needLinesIn : mm_T yX11_needLinesIn cX11_needLinesIn 3 none 1 := ⟨wd_1763, wd_142, by decide +kernel, by decide +kernel, by decide +kernel, by decide +kernel⟩
theorem wd_1760 : Cond.methodLink RX11 436 yX11_needLinesIn ∈ lw_good := mm_wd 1760 (by decide +kernel) (by decide +kernel)
theorem wd_1762 : Cond.instanceMethod yX11_needLinesIn ∈ lw_good := mm_wd 1762 (by decide +kernel) (by decide +kernel)
theorem wd_51 : Cond.selects RX11 yX11_needLinesIn yX11_needLinesIn ∈ lw_good := mm_wd 51 (by decide +kernel) (by decide +kernel)
def F_X11_needTwos_38 : Nat → Option Nat → Int32 → MH → Option ((String ⊕ Unit) × MH)
  | 0 => fun _ _ _ => none
  | n + 1 => fun l1 l2 h => mm_b2 (cV h l1 10 (F_X10_many l1 h)) fun v42 h42 => if v42 ≤ (l2 + (1 : Int32)) then (some (.inr (), h42)) else (mm_b2 (cV h42 l1 10 (F_X10_at l1 l2 h42)) fun v50 h50 => mm_b2 (cV h50 l1 10 (F_X10_at l1 (l2 + (1 : Int32)) h50)) fun v57 h57 => if (lg_cmp v50 v57) = 0 then ((tH h57).bind fun h64 => some (.inl "java/lang/IllegalArgumentException", h64)) else (F_X11_needTwos_38 n l1 (l2 + (2 : Int32)) h57))
set_option maxRecDepth 20000 in
set_option maxHeartbeats 4000000 in
theorem w_X11_needTwos_38 {d : Nat} {V : Nat → List (Nat × Value) → List Value → MH → Prop} {r : String ⊕ Unit} {hz : MH} (hd : 7 ≤ d) (C : mm_C d yX11_needTwos cX11_needTwos 3 none (mm_ov r) hz V) : ∀ (n : Nat) (l1 : Option Nat) (l2 : Int32) (h : MH), F_X11_needTwos_38 n l1 l2 h = some (r, hz) → V 38 [(1, va_rf l1), (2, .int l2)] [] h := by
  intro n
  induction n with
  | zero => intro l1 l2 h hK; cases hK
  | succ n ih =>
    intro l1 l2 h hK
    replace hK : (mm_b2 (cV h l1 10 (F_X10_many l1 h)) fun v42 h42 => if v42 ≤ (l2 + (1 : Int32)) then (some (.inr (), h42)) else (mm_b2 (cV h42 l1 10 (F_X10_at l1 l2 h42)) fun v50 h50 => mm_b2 (cV h50 l1 10 (F_X10_at l1 (l2 + (1 : Int32)) h50)) fun v57 h57 => if (lg_cmp v50 v57) = 0 then ((tH h57).bind fun h64 => some (.inl "java/lang/IllegalArgumentException", h64)) else (F_X11_needTwos_38 n l1 (l2 + (2 : Int32)) h57))) = some (r, hz) := hK
    refine mm_iload_n C (pc := 38) 1 dX11_needTwos_38 rfl ?_
    refine mm_iconst C (pc := 39) (v := (1 : Int32)) dX11_needTwos_39 (by decide) ?_
    refine mm_iadd C (pc := 40) dX11_needTwos_40 ?_
    refine mm_aload_n C (pc := 41) 0 dX11_needTwos_41 rfl ?_
    replace hK := mm_b2s hK; obtain ⟨v42, h42, e42, hK⟩ := hK
    obtain ⟨o42, e42⟩ := cV_some e42
    refine mm_callV C (pc := 42) (d1 := 1) (As := []) (st := [.int (l2 + (1 : Int32))]) (vk := (some (.int v42))) ((S_X10_many (by omega)) e42) tT_X10_many o42 (Or.inr ⟨_, rfl, rfl⟩) wd_1570 wd_1571 wd_1572 (by omega) (by decide) rfl (by simp [mm_crf, mm_cti, mm_ctl]) rfl dX11_needTwos_42 ?_
    show V _ _ (.int v42 :: _) _
    refine mm_icmp_ge C (pc := 45) (tgt := 81) dX11_needTwos_45 (by decide) (fun hc => ?_) (fun hc => ?_)
    · replace hK := mm_ip hc hK
      cases hK
      exact mm_vret C (pc := 81) rfl dX11_needTwos_81 rfl rfl
    · replace hK := mm_in hc hK
      refine mm_aload_n C (pc := 48) 0 dX11_needTwos_48 rfl ?_
      refine mm_iload_n C (pc := 49) 1 dX11_needTwos_49 rfl ?_
      replace hK := mm_b2s hK; obtain ⟨v50, h50, e50, hK⟩ := hK
      obtain ⟨o50, e50⟩ := cV_some e50
      refine mm_callV C (pc := 50) (d1 := 2) (As := [.int l2]) (st := []) (vk := (some (.long v50))) ((S_X10_at (by omega)) e50) tT_X10_at o50 (Or.inr ⟨_, rfl, rfl⟩) wd_1575 wd_1576 wd_1577 (by omega) (by decide) rfl (by simp [mm_crf, mm_cti, mm_ctl]) rfl dX11_needTwos_50 ?_
      show V _ _ (.long v50 :: _) _
      refine mm_aload_n C (pc := 53) 0 dX11_needTwos_53 rfl ?_
      refine mm_iload_n C (pc := 54) 1 dX11_needTwos_54 rfl ?_
      refine mm_iconst C (pc := 55) (v := (1 : Int32)) dX11_needTwos_55 (by decide) ?_
      refine mm_iadd C (pc := 56) dX11_needTwos_56 ?_
      replace hK := mm_b2s hK; obtain ⟨v57, h57, e57, hK⟩ := hK
      obtain ⟨o57, e57⟩ := cV_some e57
      refine mm_callV C (pc := 57) (d1 := 2) (As := [.int (l2 + (1 : Int32))]) (st := [.long v50]) (vk := (some (.long v57))) ((S_X10_at (by omega)) e57) tT_X10_at o57 (Or.inr ⟨_, rfl, rfl⟩) wd_1575 wd_1576 wd_1577 (by omega) (by decide) rfl (by simp [mm_crf, mm_cti, mm_ctl]) rfl dX11_needTwos_57 ?_
      show V _ _ (.long v57 :: _) _
      refine mm_lcmp C (pc := 60) dX11_needTwos_60 ?_
      refine mm_if_ne C (pc := 61) (tgt := 75) dX11_needTwos_61 (by decide) (fun hc => ?_) (fun hc => ?_)
      · replace hK := mm_in hc hK
        refine mm_iinc C (pc := 75) (v := (l2 + (2 : Int32))) (lv' := [(2, .int (l2 + (2 : Int32))), (1, va_rf l1)]) 1 dX11_needTwos_75 rfl rfl (by decide) (by simp [mm_crf]) ?_
        refine mm_goto C (pc := 78) (tgt := 38) dX11_needTwos_78 (by decide) ?_
        refine mm_sub C [1, 0] rfl ?_
        exact ih _ _ _ hK
      · replace hK := mm_ip hc hK
        replace hK := mm_bd hK; obtain ⟨h64, e64, hK⟩ := hK
        cases hK
        exact mm_throwW C (pc := 64) (i := 25) tW_X11_264_268 (by rfl) dX11_needTwos_64 dX11_needTwos_67 dX11_needTwos_68 dX11_needTwos_71 dX11_needTwos_74 (by omega) (by simp [mm_crf, mm_cti, mm_ctl]) rfl e64
def F_X11_needTwos (a0 : Option Nat) (a1 : Option Nat) (h : MH) : Option ((String ⊕ Unit) × MH) := mm_b2 (cV h a1 10 (F_X10_many a1 h)) fun v1 h1 => if (v1 - v1 / (2 : Int32) * (2 : Int32)) = 0 then (mm_b2 (cV h1 a1 10 (F_X10_many a1 h1)) fun v21 h21 => mm_b3 (F_X11_needWithin (v21 / (2 : Int32)) (1 : Int32) (3 : Int32) h21) fun _ h28 => mm_b3 (cV h28 a0 11 (F_X11_needLinesIn a0 a1 h28)) fun _ h33 => F_X11_needTwos_38 mm_N a1 (0 : Int32) h33) else ((tH h1).bind fun h9 => some (.inl "java/lang/IllegalArgumentException", h9))
set_option maxRecDepth 20000 in
set_option maxHeartbeats 4000000 in
theorem S_X11_needTwos {d : Nat} (hd : 7 ≤ d) {a0 : Option Nat} {a1 : Option Nat} {h : MH} {r : String ⊕ Unit} {hz : MH} (hK : F_X11_needTwos a0 a1 h = some (r, hz)) : mm_M yX11_needTwos cX11_needTwos 3 none d [va_rf a0, va_rf a1] h (mm_ov r) hz := by
  refine mm_ofV (by decide +kernel) (by simp [lg_sl, mm_crf, mm_cti, mm_ctl]) (fun V C => ?_)
  rw [show lv_args 0 [va_rf a0, va_rf a1] = [(0, va_rf a0), (1, va_rf a1)] by simp [lv_args, mm_crf, mm_cti, mm_ctl]]
  unfold F_X11_needTwos at hK
  refine mm_aload_n C (pc := 0) 1 dX11_needTwos_0 rfl ?_
  replace hK := mm_b2s hK; obtain ⟨v1, h1, e1, hK⟩ := hK
  obtain ⟨o1, e1⟩ := cV_some e1
  refine mm_callV C (pc := 1) (d1 := 1) (As := []) (st := []) (vk := (some (.int v1))) ((S_X10_many (by omega)) e1) tT_X10_many o1 (Or.inr ⟨_, rfl, rfl⟩) wd_1570 wd_1571 wd_1572 (by omega) (by decide) rfl (by simp [mm_crf, mm_cti, mm_ctl]) rfl dX11_needTwos_1 ?_
  show V _ _ (.int v1 :: _) _
  refine mm_iconst C (pc := 4) (v := (2 : Int32)) dX11_needTwos_4 (by decide) ?_
  refine mm_irem C (pc := 5) dX11_needTwos_5 (by decide) ?_
  refine mm_if_eq C (pc := 6) (tgt := 20) dX11_needTwos_6 (by decide) (fun hc => ?_) (fun hc => ?_)
  · replace hK := mm_ip hc hK
    refine mm_aload_n C (pc := 20) 1 dX11_needTwos_20 rfl ?_
    replace hK := mm_b2s hK; obtain ⟨v21, h21, e21, hK⟩ := hK
    obtain ⟨o21, e21⟩ := cV_some e21
    refine mm_callV C (pc := 21) (d1 := 1) (As := []) (st := []) (vk := (some (.int v21))) ((S_X10_many (by omega)) e21) tT_X10_many o21 (Or.inr ⟨_, rfl, rfl⟩) wd_1570 wd_1571 wd_1572 (by omega) (by decide) rfl (by simp [mm_crf, mm_cti, mm_ctl]) rfl dX11_needTwos_21 ?_
    show V _ _ (.int v21 :: _) _
    refine mm_iconst C (pc := 24) (v := (2 : Int32)) dX11_needTwos_24 (by decide) ?_
    refine mm_idiv C (pc := 25) dX11_needTwos_25 (by decide) ?_
    refine mm_iconst C (pc := 26) (v := (1 : Int32)) dX11_needTwos_26 (by decide) ?_
    refine mm_iconst C (pc := 27) (v := (3 : Int32)) dX11_needTwos_27 (by decide) ?_
    replace hK := mm_b3s hK; rcases hK with ⟨E28, e28, rfl⟩ | ⟨v28, h28, e28, hK⟩
    · skip
      exact mm_callSX C (pc := 28) (d1 := 6) (As := [.int (v21 / (2 : Int32)), .int (1 : Int32), .int (3 : Int32)]) (st := []) ((S_X11_needWithin (by omega)) e28) tT_X11_needWithin wd_1163 wd_1164 (by omega) (by decide) rfl (by simp [mm_crf, mm_cti, mm_ctl]) rfl dX11_needTwos_28 rfl rfl
    refine mm_callS C (pc := 28) (d1 := 6) (As := [.int (v21 / (2 : Int32)), .int (1 : Int32), .int (3 : Int32)]) (st := []) (vk := none) ((S_X11_needWithin (by omega)) e28) tT_X11_needWithin wd_1163 wd_1164 (by omega) (by decide) rfl (by simp [mm_crf, mm_cti, mm_ctl]) rfl dX11_needTwos_28 ?_
    show V _ _ [] _
    refine mm_aload_n C (pc := 31) 0 dX11_needTwos_31 rfl ?_
    refine mm_aload_n C (pc := 32) 1 dX11_needTwos_32 rfl ?_
    replace hK := mm_b3s hK; rcases hK with ⟨E33, e33, rfl⟩ | ⟨v33, h33, e33, hK⟩
    · obtain ⟨o33, e33⟩ := cV_some e33
      exact mm_callVX C (pc := 33) (d1 := 6) (As := [va_rf a1]) (st := []) ((S_X11_needLinesIn (by omega)) e33) tT_X11_needLinesIn o33 (Or.inr ⟨_, rfl, rfl⟩) wd_1760 wd_1762 wd_51 (by omega) (by decide) rfl (by simp [mm_crf, mm_cti, mm_ctl]) rfl dX11_needTwos_33 rfl rfl
    obtain ⟨o33, e33⟩ := cV_some e33
    refine mm_callV C (pc := 33) (d1 := 6) (As := [va_rf a1]) (st := []) (vk := none) ((S_X11_needLinesIn (by omega)) e33) tT_X11_needLinesIn o33 (Or.inr ⟨_, rfl, rfl⟩) wd_1760 wd_1762 wd_51 (by omega) (by decide) rfl (by simp [mm_crf, mm_cti, mm_ctl]) rfl dX11_needTwos_33 ?_
    show V _ _ [] _
    refine mm_iconst C (pc := 36) (v := (0 : Int32)) dX11_needTwos_36 (by decide) ?_
    refine mm_istore_n C (pc := 37) (i := 2) (lv' := [(2, .int (0 : Int32)), (0, va_rf a0), (1, va_rf a1)]) dX11_needTwos_37 rfl (by decide) (by simp [mm_crf]) ?_
    refine mm_sub C [2, 0] rfl ?_
    exact w_X11_needTwos_38 hd C _ _ _ _ hK
  · replace hK := mm_in hc hK
    replace hK := mm_bd hK; obtain ⟨h9, e9, hK⟩ := hK
    cases hK
    exact mm_throwW C (pc := 9) (i := 26) tW_X11_264_268 (by rfl) dX11_needTwos_9 dX11_needTwos_12 dX11_needTwos_13 dX11_needTwos_16 dX11_needTwos_19 (by omega) (by simp [mm_crf, mm_cti, mm_ctl]) rfl e9
theorem wd_1769 : Cond.code yX11_joinTwos cX11_joinTwos 7 (some .boolean) ∈ lw_good := mm_wd 1769 (by decide +kernel) (by decide +kernel)
theorem tT_X11_joinTwos : mm_T yX11_joinTwos cX11_joinTwos 7 (some .boolean) 3 := ⟨wd_1769, wd_142, by decide +kernel, by decide +kernel, by decide +kernel, by decide +kernel⟩
theorem wd_1766 : Cond.methodLink RX11 325 yX11_joinTwos ∈ lw_good := mm_wd 1766 (by decide +kernel) (by decide +kernel)
theorem wd_1768 : Cond.instanceMethod yX11_joinTwos ∈ lw_good := mm_wd 1768 (by decide +kernel) (by decide +kernel)
theorem wd_52 : Cond.selects RX11 yX11_joinTwos yX11_joinTwos ∈ lw_good := mm_wd 52 (by decide +kernel) (by decide +kernel)
abbrev PT_X11_joinTwos : Type := (Option Nat → Option Nat → Int32 → Int32 → MH → Option (Int32 × MH))
def PH_X11_joinTwos (p : PT_X11_joinTwos) (d0 : Nat) : Prop := (∀ d : Nat, d0 ≤ d → ∀ {a0 : Option Nat} {a1 : Option Nat} {a2 : Int32} {a3 : Int32} {h : MH} {r : Int32} {hz : MH}, p a0 a1 a2 a3 h = some (r, hz) → mm_M yX11_joinTwos cX11_joinTwos 7 (some .boolean) d [va_rf a0, va_rf a1, .int a2, .int a3] h (.inr (some (.int r))) hz)
def F_X11_joinTwos_17 (p : PT_X11_joinTwos) (h : MH) : Option (Int32 × MH) := rZ (1 : Int32) h
set_option maxRecDepth 20000 in
set_option maxHeartbeats 4000000 in
theorem w_X11_joinTwos_17 {d : Nat} {V : Nat → List (Nat × Value) → List Value → MH → Prop} {r : Int32} {hz : MH} {p : PT_X11_joinTwos} {d0 : Nat} (hd0 : d0 + 1 ≤ d) (hp : PH_X11_joinTwos p d0) (hd : 3 ≤ d) (C : mm_C d yX11_joinTwos cX11_joinTwos 7 (some .boolean) (.inr (some (.int r))) hz V) (h : MH) (hK : F_X11_joinTwos_17 p  h = some (r, hz)) : V 17 [] [] h := by
  unfold F_X11_joinTwos_17 at hK
  refine mm_iconst C (pc := 17) (v := (1 : Int32)) dX11_joinTwos_17 (by decide) ?_
  replace hK := rZ_some hK; obtain ⟨hv18, hK⟩ := hK
  cases hK
  exact mm_zret C (pc := 18) rfl (mm_nrZ hv18) dX11_joinTwos_18 rfl rfl
def F_X11_joinTwos_106 (p : PT_X11_joinTwos) (k44 : Option Nat → Option Nat → Int32 → Int32 → Int32 → Int32 → Int32 → MH → Option (Int32 × MH)) (l0 : Option Nat) (l1 : Option Nat) (l2 : Int32) (l3 : Int32) (l4 : Int32) (l5 : Int32) (l6 : Int32) (h : MH) : Option (Int32 × MH) := k44 l0 l1 l2 l3 l4 l5 (l6 + (1 : Int32)) h
set_option maxRecDepth 20000 in
set_option maxHeartbeats 4000000 in
theorem w_X11_joinTwos_106 {d : Nat} {V : Nat → List (Nat × Value) → List Value → MH → Prop} {r : Int32} {hz : MH} {p : PT_X11_joinTwos} {d0 : Nat} (hd0 : d0 + 1 ≤ d) (hp : PH_X11_joinTwos p d0) {k44 : Option Nat → Option Nat → Int32 → Int32 → Int32 → Int32 → Int32 → MH → Option (Int32 × MH)} (hd : 3 ≤ d) (C : mm_C d yX11_joinTwos cX11_joinTwos 7 (some .boolean) (.inr (some (.int r))) hz V) (q44 : ∀ (x0 : Option Nat) (x1 : Option Nat) (x2 : Int32) (x3 : Int32) (x4 : Int32) (x5 : Int32) (x6 : Int32) (h : MH), k44 x0 x1 x2 x3 x4 x5 x6 h = some (r, hz) → V 44 [(0, va_rf x0), (1, va_rf x1), (2, .int x2), (3, .int x3), (4, .int x4), (5, .int x5), (6, .int x6)] [] h) (l0 : Option Nat) (l1 : Option Nat) (l2 : Int32) (l3 : Int32) (l4 : Int32) (l5 : Int32) (l6 : Int32) (h : MH) (hK : F_X11_joinTwos_106 p k44 l0 l1 l2 l3 l4 l5 l6 h = some (r, hz)) : V 106 [(0, va_rf l0), (1, va_rf l1), (2, .int l2), (3, .int l3), (4, .int l4), (5, .int l5), (6, .int l6)] [] h := by
  unfold F_X11_joinTwos_106 at hK
  refine mm_iinc C (pc := 106) (v := (l6 + (1 : Int32))) (lv' := [(6, .int (l6 + (1 : Int32))), (0, va_rf l0), (1, va_rf l1), (2, .int l2), (3, .int l3), (4, .int l4), (5, .int l5)]) 6 dX11_joinTwos_106 rfl rfl (by decide) rfl ?_
  refine mm_goto C (pc := 109) (tgt := 44) dX11_joinTwos_109 (by decide) ?_
  refine mm_sub C [1, 2, 3, 4, 5, 6, 0] rfl ?_
  exact q44 _ _ _ _ _ _ _ _ hK
def F_X11_joinTwos_44 (p : PT_X11_joinTwos) : Nat → Option Nat → Option Nat → Int32 → Int32 → Int32 → Int32 → Int32 → MH → Option (Int32 × MH)
  | 0 => fun _ _ _ _ _ _ _ _ => none
  | n + 1 => fun l0 l1 l2 l3 l4 l5 l6 h => (gR h l0 11 5).bind fun v47 => (gR h v47 0 2).bind fun v50 => (gI h v50 8 1).bind fun v53 => if v53 ≤ l6 then (rZ (0 : Int32) h) else (if ((l3 >>> (l6 &&& 31)) &&& (1 : Int32)) = 0 then ((gR h l0 11 5).bind fun v69 => (gR h v69 0 2).bind fun v72 => mm_b2 (cV h v72 8 (F_X8_reaches v72 l6 l4 l5 h)) fun v81 h81 => if v81 = 0 then (F_X11_joinTwos_106 p (F_X11_joinTwos_44 p n) l0 l1 l2 l3 l4 l5 l6 h81) else (mm_b2 (cV h81 l0 11 (p l0 l1 (l2 + (1 : Int32)) (l3 ||| ((1 : Int32) <<< (l6 &&& 31))) h81)) fun v98 h98 => if v98 = 0 then (F_X11_joinTwos_106 p (F_X11_joinTwos_44 p n) l0 l1 l2 l3 l4 l5 l6 h98) else (rZ (1 : Int32) h98))) else (F_X11_joinTwos_106 p (F_X11_joinTwos_44 p n) l0 l1 l2 l3 l4 l5 l6 h))
set_option maxRecDepth 20000 in
set_option maxHeartbeats 4000000 in
theorem w_X11_joinTwos_44 {d : Nat} {V : Nat → List (Nat × Value) → List Value → MH → Prop} {r : Int32} {hz : MH} {p : PT_X11_joinTwos} {d0 : Nat} (hd0 : d0 + 1 ≤ d) (hp : PH_X11_joinTwos p d0) (hd : 3 ≤ d) (C : mm_C d yX11_joinTwos cX11_joinTwos 7 (some .boolean) (.inr (some (.int r))) hz V) : ∀ (n : Nat) (l0 : Option Nat) (l1 : Option Nat) (l2 : Int32) (l3 : Int32) (l4 : Int32) (l5 : Int32) (l6 : Int32) (h : MH), F_X11_joinTwos_44 p n l0 l1 l2 l3 l4 l5 l6 h = some (r, hz) → V 44 [(0, va_rf l0), (1, va_rf l1), (2, .int l2), (3, .int l3), (4, .int l4), (5, .int l5), (6, .int l6)] [] h := by
  intro n
  induction n with
  | zero => intro l0 l1 l2 l3 l4 l5 l6 h hK; cases hK
  | succ n ih =>
    intro l0 l1 l2 l3 l4 l5 l6 h hK
    replace hK : ((gR h l0 11 5).bind fun v47 => (gR h v47 0 2).bind fun v50 => (gI h v50 8 1).bind fun v53 => if v53 ≤ l6 then (rZ (0 : Int32) h) else (if ((l3 >>> (l6 &&& 31)) &&& (1 : Int32)) = 0 then ((gR h l0 11 5).bind fun v69 => (gR h v69 0 2).bind fun v72 => mm_b2 (cV h v72 8 (F_X8_reaches v72 l6 l4 l5 h)) fun v81 h81 => if v81 = 0 then (F_X11_joinTwos_106 p (F_X11_joinTwos_44 p n) l0 l1 l2 l3 l4 l5 l6 h81) else (mm_b2 (cV h81 l0 11 (p l0 l1 (l2 + (1 : Int32)) (l3 ||| ((1 : Int32) <<< (l6 &&& 31))) h81)) fun v98 h98 => if v98 = 0 then (F_X11_joinTwos_106 p (F_X11_joinTwos_44 p n) l0 l1 l2 l3 l4 l5 l6 h98) else (rZ (1 : Int32) h98))) else (F_X11_joinTwos_106 p (F_X11_joinTwos_44 p n) l0 l1 l2 l3 l4 l5 l6 h))) = some (r, hz) := hK
    refine mm_iload C (pc := 44) 6 dX11_joinTwos_44 rfl ?_
    refine mm_aload_n C (pc := 46) 0 dX11_joinTwos_46 rfl ?_
    replace hK := mm_bd hK; obtain ⟨v47, e47, hK⟩ := hK
    refine mm_getr C (pc := 47) (k := 5) inGX11 rfl (by decide) wd_850 dX11_joinTwos_47 e47 ?_
    replace hK := mm_bd hK; obtain ⟨v50, e50, hK⟩ := hK
    refine mm_getr C (pc := 50) (k := 2) inGX0 rfl (by decide) wd_819 dX11_joinTwos_50 e50 ?_
    replace hK := mm_bd hK; obtain ⟨v53, e53, hK⟩ := hK
    refine mm_geti C (pc := 53) (k := 1) inGX8 rfl (by decide) wd_779 dX11_joinTwos_53 e53 ?_
    refine mm_icmp_ge C (pc := 56) (tgt := 112) dX11_joinTwos_56 (by decide) (fun hc => ?_) (fun hc => ?_)
    · replace hK := mm_ip hc hK
      refine mm_iconst C (pc := 112) (v := (0 : Int32)) dX11_joinTwos_112 (by decide) ?_
      replace hK := rZ_some hK; obtain ⟨hv113, hK⟩ := hK
      cases hK
      exact mm_zret C (pc := 113) rfl (mm_nrZ hv113) dX11_joinTwos_113 rfl rfl
    · replace hK := mm_in hc hK
      refine mm_iload_n C (pc := 59) 3 dX11_joinTwos_59 rfl ?_
      refine mm_iload C (pc := 60) 6 dX11_joinTwos_60 rfl ?_
      refine mm_ishr C (pc := 62) dX11_joinTwos_62 ?_
      refine mm_iconst C (pc := 63) (v := (1 : Int32)) dX11_joinTwos_63 (by decide) ?_
      refine mm_iand C (pc := 64) dX11_joinTwos_64 ?_
      refine mm_if_ne C (pc := 65) (tgt := 106) dX11_joinTwos_65 (by decide) (fun hc => ?_) (fun hc => ?_)
      · replace hK := mm_in hc hK
        exact w_X11_joinTwos_106 hd0 hp hd C (fun z0 z1 z2 z3 z4 z5 z6 z7 hK => ih z0 z1 z2 z3 z4 z5 z6 z7 hK) _ _ _ _ _ _ _ _ hK
      · replace hK := mm_ip hc hK
        refine mm_aload_n C (pc := 68) 0 dX11_joinTwos_68 rfl ?_
        replace hK := mm_bd hK; obtain ⟨v69, e69, hK⟩ := hK
        refine mm_getr C (pc := 69) (k := 5) inGX11 rfl (by decide) wd_850 dX11_joinTwos_69 e69 ?_
        replace hK := mm_bd hK; obtain ⟨v72, e72, hK⟩ := hK
        refine mm_getr C (pc := 72) (k := 2) inGX0 rfl (by decide) wd_819 dX11_joinTwos_72 e72 ?_
        refine mm_iload C (pc := 75) 6 dX11_joinTwos_75 rfl ?_
        refine mm_iload C (pc := 77) 4 dX11_joinTwos_77 rfl ?_
        refine mm_iload C (pc := 79) 5 dX11_joinTwos_79 rfl ?_
        replace hK := mm_b2s hK; obtain ⟨v81, h81, e81, hK⟩ := hK
        obtain ⟨o81, e81⟩ := cV_some e81
        refine mm_callV C (pc := 81) (d1 := 1) (As := [.int l6, .int l4, .int l5]) (st := []) (vk := (some (.int v81))) ((S_X8_reaches (by omega)) e81) tT_X8_reaches o81 (Or.inr ⟨_, rfl, rfl⟩) wd_1092 wd_1052 wd_1053 (by omega) (by decide) rfl (by simp [mm_crf, mm_cti, mm_ctl]) rfl dX11_joinTwos_81 ?_
        show V _ _ (.int v81 :: _) _
        refine mm_if_eq C (pc := 84) (tgt := 106) dX11_joinTwos_84 (by decide) (fun hc => ?_) (fun hc => ?_)
        · replace hK := mm_ip hc hK
          exact w_X11_joinTwos_106 hd0 hp hd C (fun z0 z1 z2 z3 z4 z5 z6 z7 hK => ih z0 z1 z2 z3 z4 z5 z6 z7 hK) _ _ _ _ _ _ _ _ hK
        · replace hK := mm_in hc hK
          refine mm_aload_n C (pc := 87) 0 dX11_joinTwos_87 rfl ?_
          refine mm_aload_n C (pc := 88) 1 dX11_joinTwos_88 rfl ?_
          refine mm_iload_n C (pc := 89) 2 dX11_joinTwos_89 rfl ?_
          refine mm_iconst C (pc := 90) (v := (1 : Int32)) dX11_joinTwos_90 (by decide) ?_
          refine mm_iadd C (pc := 91) dX11_joinTwos_91 ?_
          refine mm_iload_n C (pc := 92) 3 dX11_joinTwos_92 rfl ?_
          refine mm_iconst C (pc := 93) (v := (1 : Int32)) dX11_joinTwos_93 (by decide) ?_
          refine mm_iload C (pc := 94) 6 dX11_joinTwos_94 rfl ?_
          refine mm_ishl C (pc := 96) dX11_joinTwos_96 ?_
          refine mm_ior C (pc := 97) dX11_joinTwos_97 ?_
          replace hK := mm_b2s hK; obtain ⟨v98, h98, e98, hK⟩ := hK
          obtain ⟨o98, e98⟩ := cV_some e98
          refine mm_callV C (pc := 98) (d1 := d0) (As := [va_rf l1, .int (l2 + (1 : Int32)), .int (l3 ||| ((1 : Int32) <<< (l6 &&& 31)))]) (st := []) (vk := (some (.int v98))) ((hp _ (by omega) ) e98) tT_X11_joinTwos o98 (Or.inr ⟨_, rfl, rfl⟩) wd_1766 wd_1768 wd_52 (by omega) (by decide) rfl (by simp [mm_crf, mm_cti, mm_ctl]) rfl dX11_joinTwos_98 ?_
          show V _ _ (.int v98 :: _) _
          refine mm_if_eq C (pc := 101) (tgt := 106) dX11_joinTwos_101 (by decide) (fun hc => ?_) (fun hc => ?_)
          · replace hK := mm_ip hc hK
            exact w_X11_joinTwos_106 hd0 hp hd C (fun z0 z1 z2 z3 z4 z5 z6 z7 hK => ih z0 z1 z2 z3 z4 z5 z6 z7 hK) _ _ _ _ _ _ _ _ hK
          · replace hK := mm_in hc hK
            refine mm_iconst C (pc := 104) (v := (1 : Int32)) dX11_joinTwos_104 (by decide) ?_
            replace hK := rZ_some hK; obtain ⟨hv105, hK⟩ := hK
            cases hK
            exact mm_zret C (pc := 105) rfl (mm_nrZ hv105) dX11_joinTwos_105 rfl rfl
def F_X11_joinTwos (p : PT_X11_joinTwos) (a0 : Option Nat) (a1 : Option Nat) (a2 : Int32) (a3 : Int32) (h : MH) : Option (Int32 × MH) := if (3 : Int32) ≤ a2 then (F_X11_joinTwos_17 p h) else (mm_b2 (cV h a1 10 (F_X10_many a1 h)) fun v11 h11 => if (((2 : Int32) * a2) + (1 : Int32)) < v11 then (mm_b2 (cV h11 a1 10 (F_X10_at a1 ((2 : Int32) * a2) h11)) fun v23 h23 => mm_b2 (cV h23 a1 10 (F_X10_at a1 (((2 : Int32) * a2) + (1 : Int32)) h23)) fun v35 h35 => F_X11_joinTwos_44 p mm_N a0 a1 a2 a3 (v23.toInt32) (v35.toInt32) (0 : Int32) h35) else (F_X11_joinTwos_17 p h11))
set_option maxRecDepth 20000 in
set_option maxHeartbeats 4000000 in
theorem S_X11_joinTwos {d : Nat} {p : PT_X11_joinTwos} {d0 : Nat} (hd0 : d0 + 1 ≤ d) (hp : PH_X11_joinTwos p d0) (hd : 3 ≤ d) {a0 : Option Nat} {a1 : Option Nat} {a2 : Int32} {a3 : Int32} {h : MH} {r : Int32} {hz : MH} (hK : F_X11_joinTwos p a0 a1 a2 a3 h = some (r, hz)) : mm_M yX11_joinTwos cX11_joinTwos 7 (some .boolean) d [va_rf a0, va_rf a1, .int a2, .int a3] h (.inr (some (.int r))) hz := by
  refine mm_ofV (by decide +kernel) (by simp [lg_sl, mm_crf, mm_cti, mm_ctl]) (fun V C => ?_)
  rw [show lv_args 0 [va_rf a0, va_rf a1, .int a2, .int a3] = [(0, va_rf a0), (1, va_rf a1), (2, .int a2), (3, .int a3)] by simp [lv_args, mm_crf, mm_cti, mm_ctl]]
  unfold F_X11_joinTwos at hK
  refine mm_iload_n C (pc := 0) 2 dX11_joinTwos_0 rfl ?_
  refine mm_iconst C (pc := 1) (v := (3 : Int32)) dX11_joinTwos_1 (by decide) ?_
  refine mm_icmp_ge C (pc := 2) (tgt := 17) dX11_joinTwos_2 (by decide) (fun hc => ?_) (fun hc => ?_)
  · replace hK := mm_ip hc hK
    refine mm_sub C [] rfl ?_
    exact w_X11_joinTwos_17 hd0 hp hd C _ hK
  · replace hK := mm_in hc hK
    refine mm_iconst C (pc := 5) (v := (2 : Int32)) dX11_joinTwos_5 (by decide) ?_
    refine mm_iload_n C (pc := 6) 2 dX11_joinTwos_6 rfl ?_
    refine mm_imul C (pc := 7) dX11_joinTwos_7 ?_
    refine mm_iconst C (pc := 8) (v := (1 : Int32)) dX11_joinTwos_8 (by decide) ?_
    refine mm_iadd C (pc := 9) dX11_joinTwos_9 ?_
    refine mm_aload_n C (pc := 10) 1 dX11_joinTwos_10 rfl ?_
    replace hK := mm_b2s hK; obtain ⟨v11, h11, e11, hK⟩ := hK
    obtain ⟨o11, e11⟩ := cV_some e11
    refine mm_callV C (pc := 11) (d1 := 1) (As := []) (st := [.int (((2 : Int32) * a2) + (1 : Int32))]) (vk := (some (.int v11))) ((S_X10_many (by omega)) e11) tT_X10_many o11 (Or.inr ⟨_, rfl, rfl⟩) wd_1570 wd_1571 wd_1572 (by omega) (by decide) rfl (by simp [mm_crf, mm_cti, mm_ctl]) rfl dX11_joinTwos_11 ?_
    show V _ _ (.int v11 :: _) _
    refine mm_icmp_lt C (pc := 14) (tgt := 19) dX11_joinTwos_14 (by decide) (fun hc => ?_) (fun hc => ?_)
    · replace hK := mm_ip hc hK
      refine mm_aload_n C (pc := 19) 1 dX11_joinTwos_19 rfl ?_
      refine mm_iconst C (pc := 20) (v := (2 : Int32)) dX11_joinTwos_20 (by decide) ?_
      refine mm_iload_n C (pc := 21) 2 dX11_joinTwos_21 rfl ?_
      refine mm_imul C (pc := 22) dX11_joinTwos_22 ?_
      replace hK := mm_b2s hK; obtain ⟨v23, h23, e23, hK⟩ := hK
      obtain ⟨o23, e23⟩ := cV_some e23
      refine mm_callV C (pc := 23) (d1 := 2) (As := [.int ((2 : Int32) * a2)]) (st := []) (vk := (some (.long v23))) ((S_X10_at (by omega)) e23) tT_X10_at o23 (Or.inr ⟨_, rfl, rfl⟩) wd_1575 wd_1576 wd_1577 (by omega) (by decide) rfl (by simp [mm_crf, mm_cti, mm_ctl]) rfl dX11_joinTwos_23 ?_
      show V _ _ (.long v23 :: _) _
      refine mm_l2i C (pc := 26) dX11_joinTwos_26 ?_
      refine mm_istore C (pc := 27) (i := 4) (lv' := [(4, .int (v23.toInt32)), (0, va_rf a0), (1, va_rf a1), (2, .int a2), (3, .int a3)]) dX11_joinTwos_27 (by decide) rfl ?_
      refine mm_aload_n C (pc := 29) 2 dX11_joinTwos_29 rfl ?_
      refine mm_iconst C (pc := 30) (v := (2 : Int32)) dX11_joinTwos_30 (by decide) ?_
      refine mm_iload_n C (pc := 31) 3 dX11_joinTwos_31 rfl ?_
      refine mm_imul C (pc := 32) dX11_joinTwos_32 ?_
      refine mm_iconst C (pc := 33) (v := (1 : Int32)) dX11_joinTwos_33 (by decide) ?_
      refine mm_iadd C (pc := 34) dX11_joinTwos_34 ?_
      replace hK := mm_b2s hK; obtain ⟨v35, h35, e35, hK⟩ := hK
      obtain ⟨o35, e35⟩ := cV_some e35
      refine mm_callV C (pc := 35) (d1 := 2) (As := [.int (((2 : Int32) * a2) + (1 : Int32))]) (st := []) (vk := (some (.long v35))) ((S_X10_at (by omega)) e35) tT_X10_at o35 (Or.inr ⟨_, rfl, rfl⟩) wd_1575 wd_1576 wd_1577 (by omega) (by decide) rfl (by simp [mm_crf, mm_cti, mm_ctl]) rfl dX11_joinTwos_35 ?_
      show V _ _ (.long v35 :: _) _
      refine mm_l2i C (pc := 38) dX11_joinTwos_38 ?_
      refine mm_istore C (pc := 39) (i := 5) (lv' := [(5, .int (v35.toInt32)), (4, .int (v23.toInt32)), (0, va_rf a0), (1, va_rf a1), (2, .int a2), (3, .int a3)]) dX11_joinTwos_39 (by decide) rfl ?_
      refine mm_iconst C (pc := 41) (v := (0 : Int32)) dX11_joinTwos_41 (by decide) ?_
      refine mm_istore C (pc := 42) (i := 6) (lv' := [(6, .int (0 : Int32)), (5, .int (v35.toInt32)), (4, .int (v23.toInt32)), (0, va_rf a0), (1, va_rf a1), (2, .int a2), (3, .int a3)]) dX11_joinTwos_42 (by decide) rfl ?_
      refine mm_sub C [3, 4, 5, 6, 2, 1, 0] rfl ?_
      exact w_X11_joinTwos_44 hd0 hp hd C _ _ _ _ _ _ _ _ _ hK
    · replace hK := mm_in hc hK
      refine mm_sub C [] rfl ?_
      exact w_X11_joinTwos_17 hd0 hp hd C _ hK
def G_X11_joinTwos : Nat → PT_X11_joinTwos
  | 0 => ((fun _ _ _ _ _ => none))
  | n + 1 => ((fun a0 a1 a2 a3 h => F_X11_joinTwos (G_X11_joinTwos n) a0 a1 a2 a3 h))
theorem S_G_X11_joinTwos : ∀ n : Nat, PH_X11_joinTwos (G_X11_joinTwos n) (3 + n) := by
  intro n
  induction n with
  | zero => exact (fun d hd _ _ _ _ _ _ _ hK => (by cases hK))
  | succ n ih => exact (fun d hd _ _ _ _ _ _ _ hK => S_X11_joinTwos (p := G_X11_joinTwos n) (d0 := 3 + n) (by omega) ih (by omega) hK)
theorem wd_1758 : Cond.code yX11_needTwos cX11_needTwos 3 none ∈ lw_good := mm_wd 1758 (by decide +kernel) (by decide +kernel)
theorem tT_X11_needTwos : mm_T yX11_needTwos cX11_needTwos 3 none 1 := ⟨wd_1758, wd_142, by decide +kernel, by decide +kernel, by decide +kernel, by decide +kernel⟩
theorem wd_1755 : Cond.methodLink RX11 319 yX11_needTwos ∈ lw_good := mm_wd 1755 (by decide +kernel) (by decide +kernel)
theorem wd_1757 : Cond.instanceMethod yX11_needTwos ∈ lw_good := mm_wd 1757 (by decide +kernel) (by decide +kernel)
theorem wd_50 : Cond.selects RX11 yX11_needTwos yX11_needTwos ∈ lw_good := mm_wd 50 (by decide +kernel) (by decide +kernel)
def F_X11_atOnce_16 : Nat → Option Nat → Option Nat → Int32 → Int32 → MH → Option ((String ⊕ Int32) × MH)
  | 0 => fun _ _ _ _ _ => none
  | n + 1 => fun l0 l2 l3 l4 h => mm_b2 (cV h l2 10 (F_X10_many l2 h)) fun v19 h19 => if v19 ≤ l4 then (mm_b2 (cV h19 l0 11 ((G_X11_joinTwos 64) l0 l2 (0 : Int32) (0 : Int32) h19)) fun v69 h69 => rZX v69 h69) else (mm_b2 (cV h19 l2 10 (F_X10_at l2 l4 h19)) fun v29 h29 => if (l3 &&& ((1 : Int32) <<< ((v29.toInt32) &&& 31))) = 0 then (F_X11_atOnce_16 n l0 l2 (l3 ||| ((1 : Int32) <<< ((v29.toInt32) &&& 31))) (l4 + (1 : Int32)) h29) else ((tH h29).bind fun h43 => some (.inl "java/lang/IllegalArgumentException", h43)))
set_option maxRecDepth 20000 in
set_option maxHeartbeats 4000000 in
theorem w_X11_atOnce_16 {d : Nat} {V : Nat → List (Nat × Value) → List Value → MH → Prop} {r : String ⊕ Int32} {hz : MH} (hd : 68 ≤ d) (C : mm_C d yX11_atOnce cX11_atOnce 6 (some .boolean) (mm_oi r) hz V) : ∀ (n : Nat) (l0 : Option Nat) (l2 : Option Nat) (l3 : Int32) (l4 : Int32) (h : MH), F_X11_atOnce_16 n l0 l2 l3 l4 h = some (r, hz) → V 16 [(0, va_rf l0), (2, va_rf l2), (3, .int l3), (4, .int l4)] [] h := by
  intro n
  induction n with
  | zero => intro l0 l2 l3 l4 h hK; cases hK
  | succ n ih =>
    intro l0 l2 l3 l4 h hK
    replace hK : (mm_b2 (cV h l2 10 (F_X10_many l2 h)) fun v19 h19 => if v19 ≤ l4 then (mm_b2 (cV h19 l0 11 ((G_X11_joinTwos 64) l0 l2 (0 : Int32) (0 : Int32) h19)) fun v69 h69 => rZX v69 h69) else (mm_b2 (cV h19 l2 10 (F_X10_at l2 l4 h19)) fun v29 h29 => if (l3 &&& ((1 : Int32) <<< ((v29.toInt32) &&& 31))) = 0 then (F_X11_atOnce_16 n l0 l2 (l3 ||| ((1 : Int32) <<< ((v29.toInt32) &&& 31))) (l4 + (1 : Int32)) h29) else ((tH h29).bind fun h43 => some (.inl "java/lang/IllegalArgumentException", h43)))) = some (r, hz) := hK
    refine mm_iload C (pc := 16) 3 dX11_atOnce_16 rfl ?_
    refine mm_aload_n C (pc := 18) 1 dX11_atOnce_18 rfl ?_
    replace hK := mm_b2s hK; obtain ⟨v19, h19, e19, hK⟩ := hK
    obtain ⟨o19, e19⟩ := cV_some e19
    refine mm_callV C (pc := 19) (d1 := 1) (As := []) (st := [.int l4]) (vk := (some (.int v19))) ((S_X10_many (by omega)) e19) tT_X10_many o19 (Or.inr ⟨_, rfl, rfl⟩) wd_1570 wd_1571 wd_1572 (by omega) (by decide) rfl (by simp [mm_crf, mm_cti, mm_ctl]) rfl dX11_atOnce_19 ?_
    show V _ _ (.int v19 :: _) _
    refine mm_icmp_ge C (pc := 22) (tgt := 65) dX11_atOnce_22 (by decide) (fun hc => ?_) (fun hc => ?_)
    · replace hK := mm_ip hc hK
      refine mm_aload_n C (pc := 65) 0 dX11_atOnce_65 rfl ?_
      refine mm_aload_n C (pc := 66) 1 dX11_atOnce_66 rfl ?_
      refine mm_iconst C (pc := 67) (v := (0 : Int32)) dX11_atOnce_67 (by decide) ?_
      refine mm_iconst C (pc := 68) (v := (0 : Int32)) dX11_atOnce_68 (by decide) ?_
      replace hK := mm_b2s hK; obtain ⟨v69, h69, e69, hK⟩ := hK
      obtain ⟨o69, e69⟩ := cV_some e69
      refine mm_callV C (pc := 69) (d1 := 67) (As := [va_rf l2, .int (0 : Int32), .int (0 : Int32)]) (st := []) (vk := (some (.int v69))) (((S_G_X11_joinTwos 64) _ (by omega)) e69) tT_X11_joinTwos o69 (Or.inr ⟨_, rfl, rfl⟩) wd_1766 wd_1768 wd_52 (by omega) (by decide) rfl (by simp [mm_crf, mm_cti, mm_ctl]) rfl dX11_atOnce_69 ?_
      show V _ _ (.int v69 :: _) _
      replace hK := rZX_some hK; obtain ⟨hv72, hK⟩ := hK
      cases hK
      exact mm_zret C (pc := 72) rfl (mm_nrZ hv72) dX11_atOnce_72 rfl rfl
    · replace hK := mm_in hc hK
      refine mm_iconst C (pc := 25) (v := (1 : Int32)) dX11_atOnce_25 (by decide) ?_
      refine mm_aload_n C (pc := 26) 1 dX11_atOnce_26 rfl ?_
      refine mm_iload C (pc := 27) 3 dX11_atOnce_27 rfl ?_
      replace hK := mm_b2s hK; obtain ⟨v29, h29, e29, hK⟩ := hK
      obtain ⟨o29, e29⟩ := cV_some e29
      refine mm_callV C (pc := 29) (d1 := 2) (As := [.int l4]) (st := [.int (1 : Int32)]) (vk := (some (.long v29))) ((S_X10_at (by omega)) e29) tT_X10_at o29 (Or.inr ⟨_, rfl, rfl⟩) wd_1575 wd_1576 wd_1577 (by omega) (by decide) rfl (by simp [mm_crf, mm_cti, mm_ctl]) rfl dX11_atOnce_29 ?_
      show V _ _ (.long v29 :: _) _
      refine mm_l2i C (pc := 32) dX11_atOnce_32 ?_
      refine mm_ishl C (pc := 33) dX11_atOnce_33 ?_
      refine mm_istore C (pc := 34) (i := 5) (lv' := [(5, .int ((1 : Int32) <<< ((v29.toInt32) &&& 31))), (0, va_rf l0), (2, va_rf l2), (3, .int l3), (4, .int l4)]) dX11_atOnce_34 (by decide) rfl ?_
      refine mm_iload_n C (pc := 36) 3 dX11_atOnce_36 rfl ?_
      refine mm_iload C (pc := 37) 0 dX11_atOnce_37 rfl ?_
      refine mm_iand C (pc := 39) dX11_atOnce_39 ?_
      refine mm_if_eq C (pc := 40) (tgt := 54) dX11_atOnce_40 (by decide) (fun hc => ?_) (fun hc => ?_)
      · replace hK := mm_ip hc hK
        refine mm_iload_n C (pc := 54) 3 dX11_atOnce_54 rfl ?_
        refine mm_iload C (pc := 55) 0 dX11_atOnce_55 rfl ?_
        refine mm_ior C (pc := 57) dX11_atOnce_57 ?_
        refine mm_istore_n C (pc := 58) (i := 3) (lv' := [(3, .int (l3 ||| ((1 : Int32) <<< ((v29.toInt32) &&& 31)))), (5, .int ((1 : Int32) <<< ((v29.toInt32) &&& 31))), (0, va_rf l0), (2, va_rf l2), (4, .int l4)]) dX11_atOnce_58 rfl (by decide) (by simp [mm_crf]) ?_
        refine mm_iinc C (pc := 59) (v := (l4 + (1 : Int32))) (lv' := [(4, .int (l4 + (1 : Int32))), (3, .int (l3 ||| ((1 : Int32) <<< ((v29.toInt32) &&& 31)))), (5, .int ((1 : Int32) <<< ((v29.toInt32) &&& 31))), (0, va_rf l0), (2, va_rf l2)]) 4 dX11_atOnce_59 rfl rfl (by decide) rfl ?_
        refine mm_goto C (pc := 62) (tgt := 16) dX11_atOnce_62 (by decide) ?_
        refine mm_sub C [3, 4, 1, 0] rfl ?_
        exact ih _ _ _ _ _ hK
      · replace hK := mm_in hc hK
        replace hK := mm_bd hK; obtain ⟨h43, e43, hK⟩ := hK
        cases hK
        exact mm_throwW C (pc := 43) (i := 28) tW_X11_264_268 (by rfl) dX11_atOnce_43 dX11_atOnce_46 dX11_atOnce_47 dX11_atOnce_50 dX11_atOnce_53 (by omega) (by simp [mm_crf, mm_cti, mm_ctl]) rfl e43
def F_X11_atOnce (a0 : Option Nat) (a1 : Int32) (h : MH) : Option ((String ⊕ Int32) × MH) := mm_b3 (cV h a0 11 (F_X11_toldTray a0 a1 h)) fun v2 h2 => mm_b3 (cV h2 a0 11 (F_X11_needTwos a0 v2 h2)) fun _ h8 => F_X11_atOnce_16 mm_N a0 v2 (0 : Int32) (0 : Int32) h8
set_option maxRecDepth 20000 in
set_option maxHeartbeats 4000000 in
theorem S_X11_atOnce {d : Nat} (hd : 68 ≤ d) {a0 : Option Nat} {a1 : Int32} {h : MH} {r : String ⊕ Int32} {hz : MH} (hK : F_X11_atOnce a0 a1 h = some (r, hz)) : mm_M yX11_atOnce cX11_atOnce 6 (some .boolean) d [va_rf a0, .int a1] h (mm_oi r) hz := by
  refine mm_ofV (by decide +kernel) (by simp [lg_sl, mm_crf, mm_cti, mm_ctl]) (fun V C => ?_)
  rw [show lv_args 0 [va_rf a0, .int a1] = [(0, va_rf a0), (1, .int a1)] by simp [lv_args, mm_crf, mm_cti, mm_ctl]]
  unfold F_X11_atOnce at hK
  refine mm_aload_n C (pc := 0) 0 dX11_atOnce_0 rfl ?_
  refine mm_iload_n C (pc := 1) 1 dX11_atOnce_1 rfl ?_
  replace hK := mm_b3s hK; rcases hK with ⟨E2, e2, rfl⟩ | ⟨v2, h2, e2, hK⟩
  · obtain ⟨o2, e2⟩ := cV_some e2
    exact mm_callVX C (pc := 2) (d1 := 7) (As := [.int a1]) (st := []) ((S_X11_toldTray (by omega)) e2) tT_X11_toldTray o2 (Or.inr ⟨_, rfl, rfl⟩) wd_1541 wd_1543 wd_40 (by omega) (by decide) rfl (by simp [mm_crf, mm_cti, mm_ctl]) rfl dX11_atOnce_2 rfl rfl
  obtain ⟨o2, e2⟩ := cV_some e2
  refine mm_callV C (pc := 2) (d1 := 7) (As := [.int a1]) (st := []) (vk := (some (va_rf v2))) ((S_X11_toldTray (by omega)) e2) tT_X11_toldTray o2 (Or.inr ⟨_, rfl, rfl⟩) wd_1541 wd_1543 wd_40 (by omega) (by decide) rfl (by simp [mm_crf, mm_cti, mm_ctl]) rfl dX11_atOnce_2 ?_
  show V _ _ (va_rf v2 :: _) _
  refine mm_astore_n C (pc := 5) (i := 2) (lv' := [(2, va_rf v2), (0, va_rf a0), (1, .int a1)]) dX11_atOnce_5 rfl (by decide) rfl ?_
  refine mm_aload_n C (pc := 6) 1 dX11_atOnce_6 rfl ?_
  refine mm_aload_n C (pc := 7) 0 dX11_atOnce_7 rfl ?_
  replace hK := mm_b3s hK; rcases hK with ⟨E8, e8, rfl⟩ | ⟨v8, h8, e8, hK⟩
  · obtain ⟨o8, e8⟩ := cV_some e8
    exact mm_callVX C (pc := 8) (d1 := 7) (As := [va_rf v2]) (st := []) ((S_X11_needTwos (by omega)) e8) tT_X11_needTwos o8 (Or.inr ⟨_, rfl, rfl⟩) wd_1755 wd_1757 wd_50 (by omega) (by decide) rfl (by simp [mm_crf, mm_cti, mm_ctl]) rfl dX11_atOnce_8 rfl rfl
  obtain ⟨o8, e8⟩ := cV_some e8
  refine mm_callV C (pc := 8) (d1 := 7) (As := [va_rf v2]) (st := []) (vk := none) ((S_X11_needTwos (by omega)) e8) tT_X11_needTwos o8 (Or.inr ⟨_, rfl, rfl⟩) wd_1755 wd_1757 wd_50 (by omega) (by decide) rfl (by simp [mm_crf, mm_cti, mm_ctl]) rfl dX11_atOnce_8 ?_
  show V _ _ [] _
  refine mm_iconst C (pc := 11) (v := (0 : Int32)) dX11_atOnce_11 (by decide) ?_
  refine mm_istore_n C (pc := 12) (i := 3) (lv' := [(3, .int (0 : Int32)), (2, va_rf v2), (0, va_rf a0), (1, .int a1)]) dX11_atOnce_12 rfl (by decide) (by simp [mm_crf]) ?_
  refine mm_iconst C (pc := 13) (v := (0 : Int32)) dX11_atOnce_13 (by decide) ?_
  refine mm_istore C (pc := 14) (i := 4) (lv' := [(4, .int (0 : Int32)), (3, .int (0 : Int32)), (2, va_rf v2), (0, va_rf a0), (1, .int a1)]) dX11_atOnce_14 (by decide) rfl ?_
  refine mm_sub C [3, 2, 1, 0] rfl ?_
  exact w_X11_atOnce_16 hd C _ _ _ _ _ _ hK
theorem wd_1795 : Cond.methodLink RX2 87 yX10_at ∈ lw_good := mm_wd 1795 (by decide +kernel) (by decide +kernel)
def F_X2_otherOf_40 (s0 : Int32) (h : MH) : Option (Int32 × MH) := some (s0, h)
set_option maxRecDepth 20000 in
set_option maxHeartbeats 4000000 in
theorem w_X2_otherOf_40 {d : Nat} {V : Nat → List (Nat × Value) → List Value → MH → Prop} {r : Int32} {hz : MH} (hd : 3 ≤ d) (C : mm_C d yX2_otherOf cX2_otherOf 5 (some .int) (.inr (some (.int r))) hz V) (s0 : Int32) (h : MH) (hK : F_X2_otherOf_40 s0 h = some (r, hz)) : V 40 [] [.int s0] h := by
  unfold F_X2_otherOf_40 at hK
  cases hK
  exact mm_iret C (pc := 40) rfl dX2_otherOf_40 rfl rfl
def F_X2_otherOf (a0 : Option Nat) (a1 : Int32) (a2 : Int32) (h : MH) : Option (Int32 × MH) := mm_b2 (cV h a0 10 (F_X10_at a0 ((2 : Int32) * a1) h)) fun v4 h4 => mm_b2 (cV h4 a0 10 (F_X10_at a0 (((2 : Int32) * a1) + (1 : Int32)) h4)) fun v15 h15 => if a2 = (v4.toInt32) then (some ((v15.toInt32), h15)) else (if a2 = (v15.toInt32) then (F_X2_otherOf_40 (v4.toInt32) h15) else (F_X2_otherOf_40 ((-1) : Int32) h15))
set_option maxRecDepth 20000 in
set_option maxHeartbeats 4000000 in
theorem S_X2_otherOf {d : Nat} (hd : 3 ≤ d) {a0 : Option Nat} {a1 : Int32} {a2 : Int32} {h : MH} {r : Int32} {hz : MH} (hK : F_X2_otherOf a0 a1 a2 h = some (r, hz)) : mm_M yX2_otherOf cX2_otherOf 5 (some .int) d [va_rf a0, .int a1, .int a2] h (.inr (some (.int r))) hz := by
  refine mm_ofV (by decide +kernel) (by simp [lg_sl, mm_crf, mm_cti, mm_ctl]) (fun V C => ?_)
  rw [show lv_args 0 [va_rf a0, .int a1, .int a2] = [(0, va_rf a0), (1, .int a1), (2, .int a2)] by simp [lv_args, mm_crf, mm_cti, mm_ctl]]
  unfold F_X2_otherOf at hK
  refine mm_aload_n C (pc := 0) 0 dX2_otherOf_0 rfl ?_
  refine mm_iconst C (pc := 1) (v := (2 : Int32)) dX2_otherOf_1 (by decide) ?_
  refine mm_iload_n C (pc := 2) 1 dX2_otherOf_2 rfl ?_
  refine mm_imul C (pc := 3) dX2_otherOf_3 ?_
  replace hK := mm_b2s hK; obtain ⟨v4, h4, e4, hK⟩ := hK
  obtain ⟨o4, e4⟩ := cV_some e4
  refine mm_callV C (pc := 4) (d1 := 2) (As := [.int ((2 : Int32) * a1)]) (st := []) (vk := (some (.long v4))) ((S_X10_at (by omega)) e4) tT_X10_at o4 (Or.inr ⟨_, rfl, rfl⟩) wd_1795 wd_1576 wd_1577 (by omega) (by decide) rfl (by simp [mm_crf, mm_cti, mm_ctl]) rfl dX2_otherOf_4 ?_
  show V _ _ (.long v4 :: _) _
  refine mm_l2i C (pc := 7) dX2_otherOf_7 ?_
  refine mm_istore_n C (pc := 8) (i := 3) (lv' := [(3, .int (v4.toInt32)), (0, va_rf a0), (1, .int a1), (2, .int a2)]) dX2_otherOf_8 rfl (by decide) rfl ?_
  refine mm_aload_n C (pc := 9) 1 dX2_otherOf_9 rfl ?_
  refine mm_iconst C (pc := 10) (v := (2 : Int32)) dX2_otherOf_10 (by decide) ?_
  refine mm_iload_n C (pc := 11) 2 dX2_otherOf_11 rfl ?_
  refine mm_imul C (pc := 12) dX2_otherOf_12 ?_
  refine mm_iconst C (pc := 13) (v := (1 : Int32)) dX2_otherOf_13 (by decide) ?_
  refine mm_iadd C (pc := 14) dX2_otherOf_14 ?_
  replace hK := mm_b2s hK; obtain ⟨v15, h15, e15, hK⟩ := hK
  obtain ⟨o15, e15⟩ := cV_some e15
  refine mm_callV C (pc := 15) (d1 := 2) (As := [.int (((2 : Int32) * a1) + (1 : Int32))]) (st := []) (vk := (some (.long v15))) ((S_X10_at (by omega)) e15) tT_X10_at o15 (Or.inr ⟨_, rfl, rfl⟩) wd_1795 wd_1576 wd_1577 (by omega) (by decide) rfl (by simp [mm_crf, mm_cti, mm_ctl]) rfl dX2_otherOf_15 ?_
  show V _ _ (.long v15 :: _) _
  refine mm_l2i C (pc := 18) dX2_otherOf_18 ?_
  refine mm_istore C (pc := 19) (i := 4) (lv' := [(4, .int (v15.toInt32)), (3, .int (v4.toInt32)), (0, va_rf a0), (1, .int a1), (2, .int a2)]) dX2_otherOf_19 (by decide) rfl ?_
  refine mm_iload_n C (pc := 21) 4 dX2_otherOf_21 rfl ?_
  refine mm_iload_n C (pc := 22) 1 dX2_otherOf_22 rfl ?_
  refine mm_icmp_ne C (pc := 23) (tgt := 29) dX2_otherOf_23 (by decide) (fun hc => ?_) (fun hc => ?_)
  · replace hK := mm_in hc hK
    refine mm_iload_n C (pc := 29) 4 dX2_otherOf_29 rfl ?_
    refine mm_iload C (pc := 30) 0 dX2_otherOf_30 rfl ?_
    refine mm_icmp_ne C (pc := 32) (tgt := 39) dX2_otherOf_32 (by decide) (fun hc => ?_) (fun hc => ?_)
    · replace hK := mm_in hc hK
      refine mm_iconst C (pc := 39) (v := ((-1) : Int32)) dX2_otherOf_39 (by decide) ?_
      refine mm_sub C [] rfl ?_
      exact w_X2_otherOf_40 hd C _ _ hK
    · replace hK := mm_ip hc hK
      refine mm_iload_n C (pc := 35) 1 dX2_otherOf_35 rfl ?_
      refine mm_goto C (pc := 36) (tgt := 40) dX2_otherOf_36 (by decide) ?_
      refine mm_sub C [] rfl ?_
      exact w_X2_otherOf_40 hd C _ _ hK
  · replace hK := mm_ip hc hK
    refine mm_iload C (pc := 26) 0 dX2_otherOf_26 rfl ?_
    cases hK
    exact mm_iret C (pc := 28) rfl dX2_otherOf_28 rfl rfl
theorem wd_1791 : Cond.methodLink RX2 73 arraycopyName ∈ lw_good := mm_wd 1791 (by decide +kernel) (by decide +kernel)
theorem wd_1784 : Cond.methodLink RX2 52 yX0_fact ∈ lw_good := mm_wd 1784 (by decide +kernel) (by decide +kernel)
theorem wd_1794 : Cond.code yX2_otherOf cX2_otherOf 5 (some .int) ∈ lw_good := mm_wd 1794 (by decide +kernel) (by decide +kernel)
theorem tT_X2_otherOf : mm_T yX2_otherOf cX2_otherOf 5 (some .int) 3 := ⟨wd_1794, wd_146, by decide +kernel, by decide +kernel, by decide +kernel, by decide +kernel⟩
theorem wd_1792 : Cond.methodLink RX2 79 yX2_otherOf ∈ lw_good := mm_wd 1792 (by decide +kernel) (by decide +kernel)
theorem wd_1793 : Cond.static yX2_otherOf ∈ lw_good := mm_wd 1793 (by decide +kernel) (by decide +kernel)
theorem wd_1796 : Cond.methodLink RX2 83 yX0_isToCome ∈ lw_good := mm_wd 1796 (by decide +kernel) (by decide +kernel)
def F_X2_leadPicks_121 (l4 : Int32) (h : MH) : Option (Int32 × MH) := some (l4, h)
set_option maxRecDepth 20000 in
set_option maxHeartbeats 4000000 in
theorem w_X2_leadPicks_121 {d : Nat} {V : Nat → List (Nat × Value) → List Value → MH → Prop} {r : Int32} {hz : MH} (hd : 4 ≤ d) (C : mm_C d yX2_leadPicks cX2_leadPicks 8 (some .int) (.inr (some (.int r))) hz V) (l4 : Int32) (h : MH) (hK : F_X2_leadPicks_121 l4 h = some (r, hz)) : V 121 [(4, .int l4)] [] h := by
  unfold F_X2_leadPicks_121 at hK
  refine mm_iload C (pc := 121) 0 dX2_leadPicks_121 rfl ?_
  cases hK
  exact mm_iret C (pc := 123) rfl dX2_leadPicks_123 rfl rfl
def F_X2_leadPicks_95 (h : MH) : Option (Int32 × MH) := some ((0 : Int32), h)
set_option maxRecDepth 20000 in
set_option maxHeartbeats 4000000 in
theorem w_X2_leadPicks_95 {d : Nat} {V : Nat → List (Nat × Value) → List Value → MH → Prop} {r : Int32} {hz : MH} (hd : 4 ≤ d) (C : mm_C d yX2_leadPicks cX2_leadPicks 8 (some .int) (.inr (some (.int r))) hz V) (h : MH) (hK : F_X2_leadPicks_95  h = some (r, hz)) : V 95 [] [] h := by
  unfold F_X2_leadPicks_95 at hK
  refine mm_iconst C (pc := 95) (v := (0 : Int32)) dX2_leadPicks_95 (by decide) ?_
  cases hK
  exact mm_iret C (pc := 96) rfl dX2_leadPicks_96 rfl rfl
def F_X2_leadPicks_21 : Nat → Option Nat → Option Nat → Option Nat → Int32 → Int32 → Int32 → MH → Option (Int32 × MH)
  | 0 => fun _ _ _ _ _ _ _ => none
  | n + 1 => fun l0 l1 l2 l3 l4 l5 h => if l3 ≤ l5 then (F_X2_leadPicks_121 l4 h) else (if (3 : Int32) ≤ l5 then (F_X2_leadPicks_121 l4 h) else ((gR h l0 2 3).bind fun v34 => (aI h v34 0 l5).bind fun v39 => mm_b2 (cV h l1 0 (F_X0_fact l1 v39 (0 : Int32) h)) fun v49 h49 => mm_b2 (F_X2_otherOf l2 l5 v49 h49) fun v52 h52 => mm_b2 (cV h52 l1 0 (F_X0_isToCome l1 v39 h52)) fun v60 h60 => if v60 = 0 then (F_X2_leadPicks_95 h60) else (if ((l4 >>> (v39 &&& 31)) &&& (1 : Int32)) = (1 : Int32) then (F_X2_leadPicks_95 h60) else (if v52 = ((-1) : Int32) then (F_X2_leadPicks_95 h60) else (if v39 < 0 then (F_X2_leadPicks_95 h60) else (if v39 < (10 : Int32) then ((gR h60 l0 2 2).bind fun v107 => (sI h60 v107 0 v39 v52).bind fun h114 => F_X2_leadPicks_21 n l0 l1 l2 l3 (l4 ||| ((1 : Int32) <<< (v39 &&& 31))) (l5 + (1 : Int32)) h114) else (F_X2_leadPicks_95 h60)))))))
set_option maxRecDepth 20000 in
set_option maxHeartbeats 4000000 in
theorem w_X2_leadPicks_21 {d : Nat} {V : Nat → List (Nat × Value) → List Value → MH → Prop} {r : Int32} {hz : MH} (hd : 4 ≤ d) (C : mm_C d yX2_leadPicks cX2_leadPicks 8 (some .int) (.inr (some (.int r))) hz V) : ∀ (n : Nat) (l0 : Option Nat) (l1 : Option Nat) (l2 : Option Nat) (l3 : Int32) (l4 : Int32) (l5 : Int32) (h : MH), F_X2_leadPicks_21 n l0 l1 l2 l3 l4 l5 h = some (r, hz) → V 21 [(0, va_rf l0), (1, va_rf l1), (2, va_rf l2), (3, .int l3), (4, .int l4), (5, .int l5)] [] h := by
  intro n
  induction n with
  | zero => intro l0 l1 l2 l3 l4 l5 h hK; cases hK
  | succ n ih =>
    intro l0 l1 l2 l3 l4 l5 h hK
    replace hK : (if l3 ≤ l5 then (F_X2_leadPicks_121 l4 h) else (if (3 : Int32) ≤ l5 then (F_X2_leadPicks_121 l4 h) else ((gR h l0 2 3).bind fun v34 => (aI h v34 0 l5).bind fun v39 => mm_b2 (cV h l1 0 (F_X0_fact l1 v39 (0 : Int32) h)) fun v49 h49 => mm_b2 (F_X2_otherOf l2 l5 v49 h49) fun v52 h52 => mm_b2 (cV h52 l1 0 (F_X0_isToCome l1 v39 h52)) fun v60 h60 => if v60 = 0 then (F_X2_leadPicks_95 h60) else (if ((l4 >>> (v39 &&& 31)) &&& (1 : Int32)) = (1 : Int32) then (F_X2_leadPicks_95 h60) else (if v52 = ((-1) : Int32) then (F_X2_leadPicks_95 h60) else (if v39 < 0 then (F_X2_leadPicks_95 h60) else (if v39 < (10 : Int32) then ((gR h60 l0 2 2).bind fun v107 => (sI h60 v107 0 v39 v52).bind fun h114 => F_X2_leadPicks_21 n l0 l1 l2 l3 (l4 ||| ((1 : Int32) <<< (v39 &&& 31))) (l5 + (1 : Int32)) h114) else (F_X2_leadPicks_95 h60)))))))) = some (r, hz) := hK
    refine mm_iload C (pc := 21) 5 dX2_leadPicks_21 rfl ?_
    refine mm_iload_n C (pc := 23) 3 dX2_leadPicks_23 rfl ?_
    refine mm_icmp_ge C (pc := 24) (tgt := 121) dX2_leadPicks_24 (by decide) (fun hc => ?_) (fun hc => ?_)
    · replace hK := mm_ip hc hK
      refine mm_sub C [4] rfl ?_
      exact w_X2_leadPicks_121 hd C _ _ hK
    · replace hK := mm_in hc hK
      refine mm_iload C (pc := 27) 5 dX2_leadPicks_27 rfl ?_
      refine mm_iconst C (pc := 29) (v := (3 : Int32)) dX2_leadPicks_29 (by decide) ?_
      refine mm_icmp_ge C (pc := 30) (tgt := 121) dX2_leadPicks_30 (by decide) (fun hc => ?_) (fun hc => ?_)
      · replace hK := mm_ip hc hK
        refine mm_sub C [4] rfl ?_
        exact w_X2_leadPicks_121 hd C _ _ hK
      · replace hK := mm_in hc hK
        refine mm_aload_n C (pc := 33) 0 dX2_leadPicks_33 rfl ?_
        replace hK := mm_bd hK; obtain ⟨v34, e34, hK⟩ := hK
        refine mm_getr C (pc := 34) (k := 3) inGX2 rfl (by decide) wd_273 dX2_leadPicks_34 e34 ?_
        refine mm_iload C (pc := 37) 5 dX2_leadPicks_37 rfl ?_
        replace hK := mm_bd hK; obtain ⟨v39, e39, hK⟩ := hK
        refine mm_iald C (pc := 39) dX2_leadPicks_39 e39 ?_
        refine mm_istore C (pc := 40) (i := 6) (lv' := [(6, .int v39), (0, va_rf l0), (1, va_rf l1), (2, va_rf l2), (3, .int l3), (4, .int l4), (5, .int l5)]) dX2_leadPicks_40 (by decide) rfl ?_
        refine mm_aload_n C (pc := 42) 3 dX2_leadPicks_42 rfl ?_
        refine mm_iload C (pc := 43) 6 dX2_leadPicks_43 rfl ?_
        refine mm_aload_n C (pc := 45) 2 dX2_leadPicks_45 rfl ?_
        refine mm_iload C (pc := 46) 0 dX2_leadPicks_46 rfl ?_
        refine mm_iconst C (pc := 48) (v := (0 : Int32)) dX2_leadPicks_48 (by decide) ?_
        replace hK := mm_b2s hK; obtain ⟨v49, h49, e49, hK⟩ := hK
        obtain ⟨o49, e49⟩ := cV_some e49
        refine mm_callV C (pc := 49) (d1 := 1) (As := [.int v39, .int (0 : Int32)]) (st := [.int l5, va_rf l2]) (vk := (some (.int v49))) ((S_X0_fact (by omega)) e49) tT_X0_fact o49 (Or.inr ⟨_, rfl, rfl⟩) wd_1784 wd_961 wd_962 (by omega) (by decide) rfl (by simp [mm_crf, mm_cti, mm_ctl]) rfl dX2_leadPicks_49 ?_
        show V _ _ (.int v49 :: _) _
        replace hK := mm_b2s hK; obtain ⟨v52, h52, e52, hK⟩ := hK
        refine mm_callS C (pc := 52) (d1 := 3) (As := [va_rf l2, .int l5, .int v49]) (st := []) (vk := (some (.int v52))) ((S_X2_otherOf (by omega)) e52) tT_X2_otherOf wd_1792 wd_1793 (by omega) (by decide) rfl (by simp [mm_crf, mm_cti, mm_ctl]) rfl dX2_leadPicks_52 ?_
        show V _ _ (.int v52 :: _) _
        refine mm_istore C (pc := 55) (i := 7) (lv' := [(7, .int v52), (6, .int v39), (0, va_rf l0), (1, va_rf l1), (2, va_rf l2), (3, .int l3), (4, .int l4), (5, .int l5)]) dX2_leadPicks_55 (by decide) rfl ?_
        refine mm_aload_n C (pc := 57) 3 dX2_leadPicks_57 rfl ?_
        refine mm_iload C (pc := 58) 1 dX2_leadPicks_58 rfl ?_
        replace hK := mm_b2s hK; obtain ⟨v60, h60, e60, hK⟩ := hK
        obtain ⟨o60, e60⟩ := cV_some e60
        refine mm_callV C (pc := 60) (d1 := 2) (As := [.int v39]) (st := []) (vk := (some (.int v60))) ((S_X0_isToCome (by omega)) e60) tT_X0_isToCome o60 (Or.inr ⟨_, rfl, rfl⟩) wd_1796 wd_991 wd_992 (by omega) (by decide) rfl (by simp [mm_crf, mm_cti, mm_ctl]) rfl dX2_leadPicks_60 ?_
        show V _ _ (.int v60 :: _) _
        refine mm_if_eq C (pc := 63) (tgt := 95) dX2_leadPicks_63 (by decide) (fun hc => ?_) (fun hc => ?_)
        · replace hK := mm_ip hc hK
          refine mm_sub C [] rfl ?_
          exact w_X2_leadPicks_95 hd C _ hK
        · replace hK := mm_in hc hK
          refine mm_iload C (pc := 66) 6 dX2_leadPicks_66 rfl ?_
          refine mm_iload C (pc := 68) 1 dX2_leadPicks_68 rfl ?_
          refine mm_ishr C (pc := 70) dX2_leadPicks_70 ?_
          refine mm_iconst C (pc := 71) (v := (1 : Int32)) dX2_leadPicks_71 (by decide) ?_
          refine mm_iand C (pc := 72) dX2_leadPicks_72 ?_
          refine mm_iconst C (pc := 73) (v := (1 : Int32)) dX2_leadPicks_73 (by decide) ?_
          refine mm_icmp_eq C (pc := 74) (tgt := 95) dX2_leadPicks_74 (by decide) (fun hc => ?_) (fun hc => ?_)
          · replace hK := mm_ip hc hK
            refine mm_sub C [] rfl ?_
            exact w_X2_leadPicks_95 hd C _ hK
          · replace hK := mm_in hc hK
            refine mm_iload C (pc := 77) 0 dX2_leadPicks_77 rfl ?_
            refine mm_iconst C (pc := 79) (v := ((-1) : Int32)) dX2_leadPicks_79 (by decide) ?_
            refine mm_icmp_eq C (pc := 80) (tgt := 95) dX2_leadPicks_80 (by decide) (fun hc => ?_) (fun hc => ?_)
            · replace hK := mm_ip hc hK
              refine mm_sub C [] rfl ?_
              exact w_X2_leadPicks_95 hd C _ hK
            · replace hK := mm_in hc hK
              refine mm_iload C (pc := 83) 1 dX2_leadPicks_83 rfl ?_
              refine mm_if_lt C (pc := 85) (tgt := 95) dX2_leadPicks_85 (by decide) (fun hc => ?_) (fun hc => ?_)
              · replace hK := mm_ip hc hK
                refine mm_sub C [] rfl ?_
                exact w_X2_leadPicks_95 hd C _ hK
              · replace hK := mm_in hc hK
                refine mm_iload C (pc := 88) 1 dX2_leadPicks_88 rfl ?_
                refine mm_bipush C (pc := 90) (v := (10 : Int32)) dX2_leadPicks_90 (by decide) ?_
                refine mm_icmp_lt C (pc := 92) (tgt := 97) dX2_leadPicks_92 (by decide) (fun hc => ?_) (fun hc => ?_)
                · replace hK := mm_ip hc hK
                  refine mm_iload C (pc := 97) 6 dX2_leadPicks_97 rfl ?_
                  refine mm_iconst C (pc := 99) (v := (1 : Int32)) dX2_leadPicks_99 (by decide) ?_
                  refine mm_iload C (pc := 100) 1 dX2_leadPicks_100 rfl ?_
                  refine mm_ishl C (pc := 102) dX2_leadPicks_102 ?_
                  refine mm_ior C (pc := 103) dX2_leadPicks_103 ?_
                  refine mm_istore C (pc := 104) (i := 4) (lv' := [(4, .int (l4 ||| ((1 : Int32) <<< (v39 &&& 31)))), (7, .int v52), (6, .int v39), (0, va_rf l0), (1, va_rf l1), (2, va_rf l2), (3, .int l3), (5, .int l5)]) dX2_leadPicks_104 (by decide) rfl ?_
                  refine mm_aload_n C (pc := 106) 3 dX2_leadPicks_106 rfl ?_
                  replace hK := mm_bd hK; obtain ⟨v107, e107, hK⟩ := hK
                  refine mm_getr C (pc := 107) (k := 2) inGX2 rfl (by decide) wd_272 dX2_leadPicks_107 e107 ?_
                  refine mm_iload C (pc := 110) 2 dX2_leadPicks_110 rfl ?_
                  refine mm_iload C (pc := 112) 1 dX2_leadPicks_112 rfl ?_
                  replace hK := mm_bd hK; obtain ⟨h114, e114, hK⟩ := hK
                  refine mm_iast C (pc := 114) dX2_leadPicks_114 e114 ?_
                  refine mm_iinc C (pc := 115) (v := (l5 + (1 : Int32))) (lv' := [(5, .int (l5 + (1 : Int32))), (4, .int (l4 ||| ((1 : Int32) <<< (v39 &&& 31)))), (7, .int v52), (6, .int v39), (0, va_rf l0), (1, va_rf l1), (2, va_rf l2), (3, .int l3)]) 7 dX2_leadPicks_115 rfl rfl (by decide) rfl ?_
                  refine mm_goto C (pc := 118) (tgt := 21) dX2_leadPicks_118 (by decide) ?_
                  refine mm_sub C [4, 5, 6, 7, 1, 0] rfl ?_
                  exact ih _ _ _ _ _ _ _ hK
                · replace hK := mm_in hc hK
                  refine mm_sub C [] rfl ?_
                  exact w_X2_leadPicks_95 hd C _ hK
def F_X2_leadPicks (a0 : Option Nat) (a1 : Option Nat) (a2 : Option Nat) (a3 : Int32) (h : MH) : Option (Int32 × MH) := (gR h a0 2 1).bind fun v1 => (gR h a0 2 2).bind fun v6 => (cpI h v1 (0 : Int32) v6 (0 : Int32) (10 : Int32)).bind fun h12 => F_X2_leadPicks_21 mm_N a0 a1 a2 a3 (0 : Int32) (0 : Int32) h12
set_option maxRecDepth 20000 in
set_option maxHeartbeats 4000000 in
theorem S_X2_leadPicks {d : Nat} (hd : 4 ≤ d) {a0 : Option Nat} {a1 : Option Nat} {a2 : Option Nat} {a3 : Int32} {h : MH} {r : Int32} {hz : MH} (hK : F_X2_leadPicks a0 a1 a2 a3 h = some (r, hz)) : mm_M yX2_leadPicks cX2_leadPicks 8 (some .int) d [va_rf a0, va_rf a1, va_rf a2, .int a3] h (.inr (some (.int r))) hz := by
  refine mm_ofV (by decide +kernel) (by simp [lg_sl, mm_crf, mm_cti, mm_ctl]) (fun V C => ?_)
  rw [show lv_args 0 [va_rf a0, va_rf a1, va_rf a2, .int a3] = [(0, va_rf a0), (1, va_rf a1), (2, va_rf a2), (3, .int a3)] by simp [lv_args, mm_crf, mm_cti, mm_ctl]]
  unfold F_X2_leadPicks at hK
  refine mm_aload_n C (pc := 0) 0 dX2_leadPicks_0 rfl ?_
  replace hK := mm_bd hK; obtain ⟨v1, e1, hK⟩ := hK
  refine mm_getr C (pc := 1) (k := 1) inGX2 rfl (by decide) wd_271 dX2_leadPicks_1 e1 ?_
  refine mm_iconst C (pc := 4) (v := (0 : Int32)) dX2_leadPicks_4 (by decide) ?_
  refine mm_aload_n C (pc := 5) 0 dX2_leadPicks_5 rfl ?_
  replace hK := mm_bd hK; obtain ⟨v6, e6, hK⟩ := hK
  refine mm_getr C (pc := 6) (k := 2) inGX2 rfl (by decide) wd_272 dX2_leadPicks_6 e6 ?_
  refine mm_iconst C (pc := 9) (v := (0 : Int32)) dX2_leadPicks_9 (by decide) ?_
  refine mm_bipush C (pc := 10) (v := (10 : Int32)) dX2_leadPicks_10 (by decide) ?_
  replace hK := mm_bd hK; obtain ⟨h12, e12, hK⟩ := hK
  refine mm_copy C (pc := 12) wd_1791 wd_554 wd_553 wd_166 (by omega) (by simp [mm_crf, mm_cti, mm_ctl]) dX2_leadPicks_12 e12 ?_
  refine mm_iconst C (pc := 15) (v := (0 : Int32)) dX2_leadPicks_15 (by decide) ?_
  refine mm_istore C (pc := 16) (i := 4) (lv' := [(4, .int (0 : Int32)), (0, va_rf a0), (1, va_rf a1), (2, va_rf a2), (3, .int a3)]) dX2_leadPicks_16 (by decide) rfl ?_
  refine mm_iconst C (pc := 18) (v := (0 : Int32)) dX2_leadPicks_18 (by decide) ?_
  refine mm_istore C (pc := 19) (i := 5) (lv' := [(5, .int (0 : Int32)), (4, .int (0 : Int32)), (0, va_rf a0), (1, va_rf a1), (2, va_rf a2), (3, .int a3)]) dX2_leadPicks_19 (by decide) rfl ?_
  refine mm_sub C [2, 3, 4, 5, 1, 0] rfl ?_
  exact w_X2_leadPicks_21 hd C _ _ _ _ _ _ _ _ hK
def F_X1_rewind (a0 : Option Nat) (h : MH) : Option MH := (gR h a0 1 4).bind fun v1 => (gR h a0 1 2).bind fun v6 => (cpI h v1 (0 : Int32) v6 (0 : Int32) (8 : Int32)).bind fun h12 => (gR h12 a0 1 5).bind fun v16 => (gR h12 a0 1 3).bind fun v21 => (cpI h12 v16 (0 : Int32) v21 (0 : Int32) (3 : Int32)).bind fun h26 => some h26
set_option maxRecDepth 20000 in
set_option maxHeartbeats 4000000 in
theorem S_X1_rewind {d : Nat} (hd : 1 ≤ d) {a0 : Option Nat} {h : MH} {hz : MH} (hK : F_X1_rewind a0 h = some hz) : mm_M yX1_rewind cX1_rewind 1 none d [va_rf a0] h (.inr none) hz := by
  refine mm_ofV (by decide +kernel) (by simp [lg_sl, mm_crf, mm_cti, mm_ctl]) (fun V C => ?_)
  rw [show lv_args 0 [va_rf a0] = [(0, va_rf a0)] by simp [lv_args, mm_crf, mm_cti, mm_ctl]]
  unfold F_X1_rewind at hK
  refine mm_aload_n C (pc := 0) 0 dX1_rewind_0 rfl ?_
  replace hK := mm_bd hK; obtain ⟨v1, e1, hK⟩ := hK
  refine mm_getr C (pc := 1) (k := 4) inGX1 rfl (by decide) wd_222 dX1_rewind_1 e1 ?_
  refine mm_iconst C (pc := 4) (v := (0 : Int32)) dX1_rewind_4 (by decide) ?_
  refine mm_aload_n C (pc := 5) 0 dX1_rewind_5 rfl ?_
  replace hK := mm_bd hK; obtain ⟨v6, e6, hK⟩ := hK
  refine mm_getr C (pc := 6) (k := 2) inGX1 rfl (by decide) wd_220 dX1_rewind_6 e6 ?_
  refine mm_iconst C (pc := 9) (v := (0 : Int32)) dX1_rewind_9 (by decide) ?_
  refine mm_bipush C (pc := 10) (v := (8 : Int32)) dX1_rewind_10 (by decide) ?_
  replace hK := mm_bd hK; obtain ⟨h12, e12, hK⟩ := hK
  refine mm_copy C (pc := 12) wd_1016 wd_554 wd_553 wd_166 (by omega) (by simp [mm_crf, mm_cti, mm_ctl]) dX1_rewind_12 e12 ?_
  refine mm_aload_n C (pc := 15) 0 dX1_rewind_15 rfl ?_
  replace hK := mm_bd hK; obtain ⟨v16, e16, hK⟩ := hK
  refine mm_getr C (pc := 16) (k := 5) inGX1 rfl (by decide) wd_223 dX1_rewind_16 e16 ?_
  refine mm_iconst C (pc := 19) (v := (0 : Int32)) dX1_rewind_19 (by decide) ?_
  refine mm_aload_n C (pc := 20) 0 dX1_rewind_20 rfl ?_
  replace hK := mm_bd hK; obtain ⟨v21, e21, hK⟩ := hK
  refine mm_getr C (pc := 21) (k := 3) inGX1 rfl (by decide) wd_221 dX1_rewind_21 e21 ?_
  refine mm_iconst C (pc := 24) (v := (0 : Int32)) dX1_rewind_24 (by decide) ?_
  refine mm_iconst C (pc := 25) (v := (3 : Int32)) dX1_rewind_25 (by decide) ?_
  replace hK := mm_bd hK; obtain ⟨h26, e26, hK⟩ := hK
  refine mm_copy C (pc := 26) wd_1016 wd_554 wd_553 wd_166 (by omega) (by simp [mm_crf, mm_cti, mm_ctl]) dX1_rewind_26 e26 ?_
  cases hK
  exact mm_vret C (pc := 29) rfl dX1_rewind_29 rfl rfl
theorem wd_1804 : Cond.code yX1_rewind cX1_rewind 1 none ∈ lw_good := mm_wd 1804 (by decide +kernel) (by decide +kernel)
theorem tT_X1_rewind : mm_T yX1_rewind cX1_rewind 1 none 0 := ⟨wd_1804, wd_145, by decide +kernel, by decide +kernel, by decide +kernel, by decide +kernel⟩
theorem wd_1801 : Cond.methodLink RX2 91 yX1_rewind ∈ lw_good := mm_wd 1801 (by decide +kernel) (by decide +kernel)
theorem wd_1802 : Cond.instanceMethod yX1_rewind ∈ lw_good := mm_wd 1802 (by decide +kernel) (by decide +kernel)
theorem wd_1803 : Cond.selects RX1 yX1_rewind yX1_rewind ∈ lw_good := mm_wd 1803 (by decide +kernel) (by decide +kernel)
theorem wd_1805 : Cond.methodLink RX2 94 yX1_many ∈ lw_good := mm_wd 1805 (by decide +kernel) (by decide +kernel)
theorem wd_1806 : Cond.methodLink RX2 95 yX1_callAt ∈ lw_good := mm_wd 1806 (by decide +kernel) (by decide +kernel)
theorem wd_821 : Cond.fieldLink RX2 99 "CrossedLines$Board" "plan" "LCrossedLines$Plan;" ∈ lw_good := mm_wd 821 (by decide +kernel) (by decide +kernel)
theorem wd_1807 : Cond.methodLink RX2 103 yX0_endOf ∈ lw_good := mm_wd 1807 (by decide +kernel) (by decide +kernel)
theorem wd_1808 : Cond.methodLink RX2 106 yX1_takeCord ∈ lw_good := mm_wd 1808 (by decide +kernel) (by decide +kernel)
def F_X2_bringsTogether_112 (k9 : Option Nat → Option Nat → Int32 → Int32 → MH → Option (Int32 × MH)) (l0 : Option Nat) (l1 : Option Nat) (l2 : Int32) (l3 : Int32) (h : MH) : Option (Int32 × MH) := k9 l0 l1 l2 (l3 + (1 : Int32)) h
set_option maxRecDepth 20000 in
set_option maxHeartbeats 4000000 in
theorem w_X2_bringsTogether_112 {d : Nat} {V : Nat → List (Nat × Value) → List Value → MH → Prop} {r : Int32} {hz : MH} {k9 : Option Nat → Option Nat → Int32 → Int32 → MH → Option (Int32 × MH)} (hd : 4 ≤ d) (C : mm_C d yX2_bringsTogether cX2_bringsTogether 8 (some .boolean) (.inr (some (.int r))) hz V) (q9 : ∀ (x0 : Option Nat) (x1 : Option Nat) (x2 : Int32) (x3 : Int32) (h : MH), k9 x0 x1 x2 x3 h = some (r, hz) → V 9 [(0, va_rf x0), (1, va_rf x1), (2, .int x2), (3, .int x3)] [] h) (l0 : Option Nat) (l1 : Option Nat) (l2 : Int32) (l3 : Int32) (h : MH) (hK : F_X2_bringsTogether_112 k9 l0 l1 l2 l3 h = some (r, hz)) : V 112 [(0, va_rf l0), (1, va_rf l1), (2, .int l2), (3, .int l3)] [] h := by
  unfold F_X2_bringsTogether_112 at hK
  refine mm_iinc C (pc := 112) (v := (l3 + (1 : Int32))) (lv' := [(3, .int (l3 + (1 : Int32))), (0, va_rf l0), (1, va_rf l1), (2, .int l2)]) 3 dX2_bringsTogether_112 rfl rfl (by decide) rfl ?_
  refine mm_goto C (pc := 115) (tgt := 9) dX2_bringsTogether_115 (by decide) ?_
  refine mm_sub C [1, 2, 3, 0] rfl ?_
  exact q9 _ _ _ _ _ hK
def F_X2_bringsTogether_53 (k9 : Option Nat → Option Nat → Int32 → Int32 → MH → Option (Int32 × MH)) (l0 : Option Nat) (l1 : Option Nat) (l2 : Int32) (l3 : Int32) (l4 : Int32) (s0 : Int32) (h : MH) : Option (Int32 × MH) := mm_b2 (cV h l1 0 (F_X0_fact l1 l4 (2 : Int32) h)) fun v59 h59 => (gR h59 l0 2 0).bind fun v65 => (gR h59 l1 0 2).bind fun v69 => mm_b2 (cV h59 l1 0 (F_X0_fact l1 l4 (0 : Int32) h59)) fun v76 h76 => mm_b2 (cV h76 l1 0 (F_X0_endOf l1 l4 h76)) fun v86 h86 => mm_b2 (cV h86 v65 1 (F_X1_takeCord v65 v69 v76 s0 v59 v86 h86)) fun v89 h89 => if v89 = ((-1) : Int32) then (if ((l2 >>> (l4 &&& 31)) &&& (1 : Int32)) = (1 : Int32) then (rZ (0 : Int32) h89) else (F_X2_bringsTogether_112 k9 l0 l1 l2 l3 h89)) else (F_X2_bringsTogether_112 k9 l0 l1 l2 l3 h89)
set_option maxRecDepth 20000 in
set_option maxHeartbeats 4000000 in
theorem w_X2_bringsTogether_53 {d : Nat} {V : Nat → List (Nat × Value) → List Value → MH → Prop} {r : Int32} {hz : MH} {k9 : Option Nat → Option Nat → Int32 → Int32 → MH → Option (Int32 × MH)} (hd : 4 ≤ d) (C : mm_C d yX2_bringsTogether cX2_bringsTogether 8 (some .boolean) (.inr (some (.int r))) hz V) (q9 : ∀ (x0 : Option Nat) (x1 : Option Nat) (x2 : Int32) (x3 : Int32) (h : MH), k9 x0 x1 x2 x3 h = some (r, hz) → V 9 [(0, va_rf x0), (1, va_rf x1), (2, .int x2), (3, .int x3)] [] h) (l0 : Option Nat) (l1 : Option Nat) (l2 : Int32) (l3 : Int32) (l4 : Int32) (s0 : Int32) (h : MH) (hK : F_X2_bringsTogether_53 k9 l0 l1 l2 l3 l4 s0 h = some (r, hz)) : V 53 [(0, va_rf l0), (1, va_rf l1), (2, .int l2), (3, .int l3), (4, .int l4)] [.int s0] h := by
  unfold F_X2_bringsTogether_53 at hK
  refine mm_istore C (pc := 53) (i := 5) (lv' := [(5, .int s0), (0, va_rf l0), (1, va_rf l1), (2, .int l2), (3, .int l3), (4, .int l4)]) dX2_bringsTogether_53 (by decide) rfl ?_
  refine mm_aload_n C (pc := 55) 2 dX2_bringsTogether_55 rfl ?_
  refine mm_iload C (pc := 56) 5 dX2_bringsTogether_56 rfl ?_
  refine mm_iconst C (pc := 58) (v := (2 : Int32)) dX2_bringsTogether_58 (by decide) ?_
  replace hK := mm_b2s hK; obtain ⟨v59, h59, e59, hK⟩ := hK
  obtain ⟨o59, e59⟩ := cV_some e59
  refine mm_callV C (pc := 59) (d1 := 1) (As := [.int l4, .int (2 : Int32)]) (st := []) (vk := (some (.int v59))) ((S_X0_fact (by omega)) e59) tT_X0_fact o59 (Or.inr ⟨_, rfl, rfl⟩) wd_1784 wd_961 wd_962 (by omega) (by decide) rfl (by simp [mm_crf, mm_cti, mm_ctl]) rfl dX2_bringsTogether_59 ?_
  show V _ _ (.int v59 :: _) _
  refine mm_istore C (pc := 62) (i := 6) (lv' := [(6, .int v59), (5, .int s0), (0, va_rf l0), (1, va_rf l1), (2, .int l2), (3, .int l3), (4, .int l4)]) dX2_bringsTogether_62 (by decide) rfl ?_
  refine mm_aload_n C (pc := 64) 2 dX2_bringsTogether_64 rfl ?_
  replace hK := mm_bd hK; obtain ⟨v65, e65, hK⟩ := hK
  refine mm_getr C (pc := 65) (k := 0) inGX2 rfl (by decide) wd_270 dX2_bringsTogether_65 e65 ?_
  refine mm_aload_n C (pc := 68) 3 dX2_bringsTogether_68 rfl ?_
  replace hK := mm_bd hK; obtain ⟨v69, e69, hK⟩ := hK
  refine mm_getr C (pc := 69) (k := 2) inGX0 rfl (by decide) wd_821 dX2_bringsTogether_69 e69 ?_
  refine mm_aload_n C (pc := 72) 3 dX2_bringsTogether_72 rfl ?_
  refine mm_iload C (pc := 73) 6 dX2_bringsTogether_73 rfl ?_
  refine mm_iconst C (pc := 75) (v := (0 : Int32)) dX2_bringsTogether_75 (by decide) ?_
  replace hK := mm_b2s hK; obtain ⟨v76, h76, e76, hK⟩ := hK
  obtain ⟨o76, e76⟩ := cV_some e76
  refine mm_callV C (pc := 76) (d1 := 1) (As := [.int l4, .int (0 : Int32)]) (st := [va_rf v69, va_rf v65]) (vk := (some (.int v76))) ((S_X0_fact (by omega)) e76) tT_X0_fact o76 (Or.inr ⟨_, rfl, rfl⟩) wd_1784 wd_961 wd_962 (by omega) (by decide) rfl (by simp [mm_crf, mm_cti, mm_ctl]) rfl dX2_bringsTogether_76 ?_
  show V _ _ (.int v76 :: _) _
  refine mm_iload C (pc := 79) 1 dX2_bringsTogether_79 rfl ?_
  refine mm_iload C (pc := 81) 0 dX2_bringsTogether_81 rfl ?_
  refine mm_aload_n C (pc := 83) 3 dX2_bringsTogether_83 rfl ?_
  refine mm_iload C (pc := 84) 6 dX2_bringsTogether_84 rfl ?_
  replace hK := mm_b2s hK; obtain ⟨v86, h86, e86, hK⟩ := hK
  obtain ⟨o86, e86⟩ := cV_some e86
  refine mm_callV C (pc := 86) (d1 := 2) (As := [.int l4]) (st := [.int v59, .int s0, .int v76, va_rf v69, va_rf v65]) (vk := (some (.int v86))) ((S_X0_endOf (by omega)) e86) tT_X0_endOf o86 (Or.inr ⟨_, rfl, rfl⟩) wd_1807 wd_1001 wd_1002 (by omega) (by decide) rfl (by simp [mm_crf, mm_cti, mm_ctl]) rfl dX2_bringsTogether_86 ?_
  show V _ _ (.int v86 :: _) _
  replace hK := mm_b2s hK; obtain ⟨v89, h89, e89, hK⟩ := hK
  obtain ⟨o89, e89⟩ := cV_some e89
  refine mm_callV C (pc := 89) (d1 := 3) (As := [va_rf v69, .int v76, .int s0, .int v59, .int v86]) (st := []) (vk := (some (.int v89))) ((S_X1_takeCord (by omega)) e89) tT_X1_takeCord o89 (Or.inr ⟨_, rfl, rfl⟩) wd_1808 wd_1040 wd_1041 (by omega) (by decide) rfl (by simp [mm_crf, mm_cti, mm_ctl]) rfl dX2_bringsTogether_89 ?_
  show V _ _ (.int v89 :: _) _
  refine mm_istore C (pc := 92) (i := 7) (lv' := [(7, .int v89), (6, .int v59), (5, .int s0), (0, va_rf l0), (1, va_rf l1), (2, .int l2), (3, .int l3), (4, .int l4)]) dX2_bringsTogether_92 (by decide) rfl ?_
  refine mm_iload C (pc := 94) 0 dX2_bringsTogether_94 rfl ?_
  refine mm_iconst C (pc := 96) (v := ((-1) : Int32)) dX2_bringsTogether_96 (by decide) ?_
  refine mm_icmp_ne C (pc := 97) (tgt := 112) dX2_bringsTogether_97 (by decide) (fun hc => ?_) (fun hc => ?_)
  · replace hK := mm_in hc hK
    refine mm_sub C [3, 4, 5, 6] rfl ?_
    exact w_X2_bringsTogether_112 hd C (fun z0 z1 z2 z3 z4 hK => q9 z0 z1 z2 z3 z4 hK) _ _ _ _ _ hK
  · replace hK := mm_ip hc hK
    refine mm_iload_n C (pc := 100) 5 dX2_bringsTogether_100 rfl ?_
    refine mm_iload C (pc := 101) 7 dX2_bringsTogether_101 rfl ?_
    refine mm_ishr C (pc := 103) dX2_bringsTogether_103 ?_
    refine mm_iconst C (pc := 104) (v := (1 : Int32)) dX2_bringsTogether_104 (by decide) ?_
    refine mm_iand C (pc := 105) dX2_bringsTogether_105 ?_
    refine mm_iconst C (pc := 106) (v := (1 : Int32)) dX2_bringsTogether_106 (by decide) ?_
    refine mm_icmp_ne C (pc := 107) (tgt := 112) dX2_bringsTogether_107 (by decide) (fun hc => ?_) (fun hc => ?_)
    · replace hK := mm_in hc hK
      refine mm_sub C [3, 4, 5, 6] rfl ?_
      exact w_X2_bringsTogether_112 hd C (fun z0 z1 z2 z3 z4 hK => q9 z0 z1 z2 z3 z4 hK) _ _ _ _ _ hK
    · replace hK := mm_ip hc hK
      refine mm_iconst C (pc := 110) (v := (0 : Int32)) dX2_bringsTogether_110 (by decide) ?_
      replace hK := rZ_some hK; obtain ⟨hv111, hK⟩ := hK
      cases hK
      exact mm_zret C (pc := 111) rfl (mm_nrZ hv111) dX2_bringsTogether_111 rfl rfl
def F_X2_bringsTogether_52 (k9 : Option Nat → Option Nat → Int32 → Int32 → MH → Option (Int32 × MH)) (l0 : Option Nat) (l1 : Option Nat) (l2 : Int32) (l3 : Int32) (l4 : Int32) (h : MH) : Option (Int32 × MH) := F_X2_bringsTogether_53 k9 l0 l1 l2 l3 l4 ((-1) : Int32) h
set_option maxRecDepth 20000 in
set_option maxHeartbeats 4000000 in
theorem w_X2_bringsTogether_52 {d : Nat} {V : Nat → List (Nat × Value) → List Value → MH → Prop} {r : Int32} {hz : MH} {k9 : Option Nat → Option Nat → Int32 → Int32 → MH → Option (Int32 × MH)} (hd : 4 ≤ d) (C : mm_C d yX2_bringsTogether cX2_bringsTogether 8 (some .boolean) (.inr (some (.int r))) hz V) (q9 : ∀ (x0 : Option Nat) (x1 : Option Nat) (x2 : Int32) (x3 : Int32) (h : MH), k9 x0 x1 x2 x3 h = some (r, hz) → V 9 [(0, va_rf x0), (1, va_rf x1), (2, .int x2), (3, .int x3)] [] h) (l0 : Option Nat) (l1 : Option Nat) (l2 : Int32) (l3 : Int32) (l4 : Int32) (h : MH) (hK : F_X2_bringsTogether_52 k9 l0 l1 l2 l3 l4 h = some (r, hz)) : V 52 [(0, va_rf l0), (1, va_rf l1), (2, .int l2), (3, .int l3), (4, .int l4)] [] h := by
  unfold F_X2_bringsTogether_52 at hK
  refine mm_iconst C (pc := 52) (v := ((-1) : Int32)) dX2_bringsTogether_52 (by decide) ?_
  exact w_X2_bringsTogether_53 hd C (fun z0 z1 z2 z3 z4 hK => q9 z0 z1 z2 z3 z4 hK) _ _ _ _ _ _ _ hK
def F_X2_bringsTogether_9 : Nat → Option Nat → Option Nat → Int32 → Int32 → MH → Option (Int32 × MH)
  | 0 => fun _ _ _ _ _ => none
  | n + 1 => fun l0 l1 l2 l3 h => (gR h l0 2 0).bind fun v11 => mm_b2 (cV h v11 1 (F_X1_many v11 h)) fun v14 h14 => if v14 ≤ l3 then (rZ (1 : Int32) h14) else ((gR h14 l0 2 0).bind fun v21 => mm_b2 (cV h14 v21 1 (F_X1_callAt v21 l3 h14)) fun v25 h25 => if v25 < 0 then (F_X2_bringsTogether_52 (F_X2_bringsTogether_9 n) l0 l1 l2 l3 v25 h25) else (if (10 : Int32) ≤ v25 then (F_X2_bringsTogether_52 (F_X2_bringsTogether_9 n) l0 l1 l2 l3 v25 h25) else ((gR h25 l0 2 2).bind fun v43 => (aI h25 v43 0 v25).bind fun v48 => F_X2_bringsTogether_53 (F_X2_bringsTogether_9 n) l0 l1 l2 l3 v25 v48 h25)))
set_option maxRecDepth 20000 in
set_option maxHeartbeats 4000000 in
theorem w_X2_bringsTogether_9 {d : Nat} {V : Nat → List (Nat × Value) → List Value → MH → Prop} {r : Int32} {hz : MH} (hd : 4 ≤ d) (C : mm_C d yX2_bringsTogether cX2_bringsTogether 8 (some .boolean) (.inr (some (.int r))) hz V) : ∀ (n : Nat) (l0 : Option Nat) (l1 : Option Nat) (l2 : Int32) (l3 : Int32) (h : MH), F_X2_bringsTogether_9 n l0 l1 l2 l3 h = some (r, hz) → V 9 [(0, va_rf l0), (1, va_rf l1), (2, .int l2), (3, .int l3)] [] h := by
  intro n
  induction n with
  | zero => intro l0 l1 l2 l3 h hK; cases hK
  | succ n ih =>
    intro l0 l1 l2 l3 h hK
    replace hK : ((gR h l0 2 0).bind fun v11 => mm_b2 (cV h v11 1 (F_X1_many v11 h)) fun v14 h14 => if v14 ≤ l3 then (rZ (1 : Int32) h14) else ((gR h14 l0 2 0).bind fun v21 => mm_b2 (cV h14 v21 1 (F_X1_callAt v21 l3 h14)) fun v25 h25 => if v25 < 0 then (F_X2_bringsTogether_52 (F_X2_bringsTogether_9 n) l0 l1 l2 l3 v25 h25) else (if (10 : Int32) ≤ v25 then (F_X2_bringsTogether_52 (F_X2_bringsTogether_9 n) l0 l1 l2 l3 v25 h25) else ((gR h25 l0 2 2).bind fun v43 => (aI h25 v43 0 v25).bind fun v48 => F_X2_bringsTogether_53 (F_X2_bringsTogether_9 n) l0 l1 l2 l3 v25 v48 h25)))) = some (r, hz) := hK
    refine mm_iload_n C (pc := 9) 3 dX2_bringsTogether_9 rfl ?_
    refine mm_aload_n C (pc := 10) 0 dX2_bringsTogether_10 rfl ?_
    replace hK := mm_bd hK; obtain ⟨v11, e11, hK⟩ := hK
    refine mm_getr C (pc := 11) (k := 0) inGX2 rfl (by decide) wd_270 dX2_bringsTogether_11 e11 ?_
    replace hK := mm_b2s hK; obtain ⟨v14, h14, e14, hK⟩ := hK
    obtain ⟨o14, e14⟩ := cV_some e14
    refine mm_callV C (pc := 14) (d1 := 1) (As := []) (st := [.int l3]) (vk := (some (.int v14))) ((S_X1_many (by omega)) e14) tT_X1_many o14 (Or.inr ⟨_, rfl, rfl⟩) wd_1805 wd_1018 wd_1019 (by omega) (by decide) rfl (by simp [mm_crf, mm_cti, mm_ctl]) rfl dX2_bringsTogether_14 ?_
    show V _ _ (.int v14 :: _) _
    refine mm_icmp_ge C (pc := 17) (tgt := 118) dX2_bringsTogether_17 (by decide) (fun hc => ?_) (fun hc => ?_)
    · replace hK := mm_ip hc hK
      refine mm_iconst C (pc := 118) (v := (1 : Int32)) dX2_bringsTogether_118 (by decide) ?_
      replace hK := rZ_some hK; obtain ⟨hv119, hK⟩ := hK
      cases hK
      exact mm_zret C (pc := 119) rfl (mm_nrZ hv119) dX2_bringsTogether_119 rfl rfl
    · replace hK := mm_in hc hK
      refine mm_aload_n C (pc := 20) 0 dX2_bringsTogether_20 rfl ?_
      replace hK := mm_bd hK; obtain ⟨v21, e21, hK⟩ := hK
      refine mm_getr C (pc := 21) (k := 0) inGX2 rfl (by decide) wd_270 dX2_bringsTogether_21 e21 ?_
      refine mm_iload_n C (pc := 24) 3 dX2_bringsTogether_24 rfl ?_
      replace hK := mm_b2s hK; obtain ⟨v25, h25, e25, hK⟩ := hK
      obtain ⟨o25, e25⟩ := cV_some e25
      refine mm_callV C (pc := 25) (d1 := 1) (As := [.int l3]) (st := []) (vk := (some (.int v25))) ((S_X1_callAt (by omega)) e25) tT_X1_callAt o25 (Or.inr ⟨_, rfl, rfl⟩) wd_1806 wd_1022 wd_1023 (by omega) (by decide) rfl (by simp [mm_crf, mm_cti, mm_ctl]) rfl dX2_bringsTogether_25 ?_
      show V _ _ (.int v25 :: _) _
      refine mm_istore C (pc := 28) (i := 4) (lv' := [(4, .int v25), (0, va_rf l0), (1, va_rf l1), (2, .int l2), (3, .int l3)]) dX2_bringsTogether_28 (by decide) rfl ?_
      refine mm_iload C (pc := 30) 0 dX2_bringsTogether_30 rfl ?_
      refine mm_if_lt C (pc := 32) (tgt := 52) dX2_bringsTogether_32 (by decide) (fun hc => ?_) (fun hc => ?_)
      · replace hK := mm_ip hc hK
        refine mm_sub C [1, 2, 3, 4, 0] rfl ?_
        exact w_X2_bringsTogether_52 hd C (fun z0 z1 z2 z3 z4 hK => ih z0 z1 z2 z3 z4 hK) _ _ _ _ _ _ hK
      · replace hK := mm_in hc hK
        refine mm_iload C (pc := 35) 0 dX2_bringsTogether_35 rfl ?_
        refine mm_bipush C (pc := 37) (v := (10 : Int32)) dX2_bringsTogether_37 (by decide) ?_
        refine mm_icmp_ge C (pc := 39) (tgt := 52) dX2_bringsTogether_39 (by decide) (fun hc => ?_) (fun hc => ?_)
        · replace hK := mm_ip hc hK
          refine mm_sub C [1, 2, 3, 4, 0] rfl ?_
          exact w_X2_bringsTogether_52 hd C (fun z0 z1 z2 z3 z4 hK => ih z0 z1 z2 z3 z4 hK) _ _ _ _ _ _ hK
        · replace hK := mm_in hc hK
          refine mm_aload_n C (pc := 42) 1 dX2_bringsTogether_42 rfl ?_
          replace hK := mm_bd hK; obtain ⟨v43, e43, hK⟩ := hK
          refine mm_getr C (pc := 43) (k := 2) inGX2 rfl (by decide) wd_272 dX2_bringsTogether_43 e43 ?_
          refine mm_iload C (pc := 46) 0 dX2_bringsTogether_46 rfl ?_
          replace hK := mm_bd hK; obtain ⟨v48, e48, hK⟩ := hK
          refine mm_iald C (pc := 48) dX2_bringsTogether_48 e48 ?_
          refine mm_goto C (pc := 49) (tgt := 53) dX2_bringsTogether_49 (by decide) ?_
          refine mm_sub C [1, 2, 3, 4, 0] rfl ?_
          exact w_X2_bringsTogether_53 hd C (fun z0 z1 z2 z3 z4 hK => ih z0 z1 z2 z3 z4 hK) _ _ _ _ _ _ _ hK
def F_X2_bringsTogether (a0 : Option Nat) (a1 : Option Nat) (a2 : Int32) (h : MH) : Option (Int32 × MH) := (gR h a0 2 0).bind fun v1 => (cV h v1 1 (F_X1_rewind v1 h)).bind fun h4 => F_X2_bringsTogether_9 mm_N a0 a1 a2 (0 : Int32) h4
set_option maxRecDepth 20000 in
set_option maxHeartbeats 4000000 in
theorem S_X2_bringsTogether {d : Nat} (hd : 4 ≤ d) {a0 : Option Nat} {a1 : Option Nat} {a2 : Int32} {h : MH} {r : Int32} {hz : MH} (hK : F_X2_bringsTogether a0 a1 a2 h = some (r, hz)) : mm_M yX2_bringsTogether cX2_bringsTogether 8 (some .boolean) d [va_rf a0, va_rf a1, .int a2] h (.inr (some (.int r))) hz := by
  refine mm_ofV (by decide +kernel) (by simp [lg_sl, mm_crf, mm_cti, mm_ctl]) (fun V C => ?_)
  rw [show lv_args 0 [va_rf a0, va_rf a1, .int a2] = [(0, va_rf a0), (1, va_rf a1), (2, .int a2)] by simp [lv_args, mm_crf, mm_cti, mm_ctl]]
  unfold F_X2_bringsTogether at hK
  refine mm_aload_n C (pc := 0) 0 dX2_bringsTogether_0 rfl ?_
  replace hK := mm_bd hK; obtain ⟨v1, e1, hK⟩ := hK
  refine mm_getr C (pc := 1) (k := 0) inGX2 rfl (by decide) wd_270 dX2_bringsTogether_1 e1 ?_
  replace hK := mm_bd hK; obtain ⟨h4, e4, hK⟩ := hK
  obtain ⟨o4, e4⟩ := cV_some e4
  refine mm_callV C (pc := 4) (d1 := 1) (As := []) (st := []) (vk := none) ((S_X1_rewind (by omega)) e4) tT_X1_rewind o4 (Or.inr ⟨_, rfl, rfl⟩) wd_1801 wd_1802 wd_1803 (by omega) (by decide) rfl (by simp [mm_crf, mm_cti, mm_ctl]) rfl dX2_bringsTogether_4 ?_
  show V _ _ [] _
  refine mm_iconst C (pc := 7) (v := (0 : Int32)) dX2_bringsTogether_7 (by decide) ?_
  refine mm_istore_n C (pc := 8) (i := 3) (lv' := [(3, .int (0 : Int32)), (0, va_rf a0), (1, va_rf a1), (2, .int a2)]) dX2_bringsTogether_8 rfl (by decide) rfl ?_
  refine mm_sub C [1, 2, 3, 0] rfl ?_
  exact w_X2_bringsTogether_9 hd C _ _ _ _ _ _ hK
def F_X2_keepWay_21 (l0 : Option Nat) (h : MH) : Option MH := (gI h l0 2 5).bind fun v23 => (pI h l0 2 5 (v23 + (1 : Int32))).bind fun h28 => some h28
set_option maxRecDepth 20000 in
set_option maxHeartbeats 4000000 in
theorem w_X2_keepWay_21 {d : Nat} {V : Nat → List (Nat × Value) → List Value → MH → Prop} {hz : MH} (hd : 1 ≤ d) (C : mm_C d yX2_keepWay cX2_keepWay 1 none (.inr none) hz V) (l0 : Option Nat) (h : MH) (hK : F_X2_keepWay_21 l0 h = some hz) : V 21 [(0, va_rf l0)] [] h := by
  unfold F_X2_keepWay_21 at hK
  refine mm_aload_n C (pc := 21) 0 dX2_keepWay_21 rfl ?_
  refine mm_dup C (pc := 22) dX2_keepWay_22 mm_crf ?_
  replace hK := mm_bd hK; obtain ⟨v23, e23, hK⟩ := hK
  refine mm_geti C (pc := 23) (k := 5) inGX2 rfl (by decide) wd_275 dX2_keepWay_23 e23 ?_
  refine mm_iconst C (pc := 26) (v := (1 : Int32)) dX2_keepWay_26 (by decide) ?_
  refine mm_iadd C (pc := 27) dX2_keepWay_27 ?_
  replace hK := mm_bd hK; obtain ⟨h28, e28, hK⟩ := hK
  refine mm_puti C (pc := 28) (k := 5) false (fun z => by cases z) inGX2 tyX2 tyX2_ok nmX2 rfl (by decide) wd_275 rfl rfl dX2_keepWay_28 e28 ?_
  cases hK
  exact mm_vret C (pc := 31) rfl dX2_keepWay_31 rfl rfl
def F_X2_keepWay (a0 : Option Nat) (h : MH) : Option MH := (gI h a0 2 5).bind fun v1 => if v1 = 0 then ((gR h a0 2 3).bind fun v8 => (gR h a0 2 4).bind fun v13 => (cpI h v8 (0 : Int32) v13 (0 : Int32) (3 : Int32)).bind fun h18 => F_X2_keepWay_21 a0 h18) else (F_X2_keepWay_21 a0 h)
set_option maxRecDepth 20000 in
set_option maxHeartbeats 4000000 in
theorem S_X2_keepWay {d : Nat} (hd : 1 ≤ d) {a0 : Option Nat} {h : MH} {hz : MH} (hK : F_X2_keepWay a0 h = some hz) : mm_M yX2_keepWay cX2_keepWay 1 none d [va_rf a0] h (.inr none) hz := by
  refine mm_ofV (by decide +kernel) (by simp [lg_sl, mm_crf, mm_cti, mm_ctl]) (fun V C => ?_)
  rw [show lv_args 0 [va_rf a0] = [(0, va_rf a0)] by simp [lv_args, mm_crf, mm_cti, mm_ctl]]
  unfold F_X2_keepWay at hK
  refine mm_aload_n C (pc := 0) 0 dX2_keepWay_0 rfl ?_
  replace hK := mm_bd hK; obtain ⟨v1, e1, hK⟩ := hK
  refine mm_geti C (pc := 1) (k := 5) inGX2 rfl (by decide) wd_275 dX2_keepWay_1 e1 ?_
  refine mm_if_ne C (pc := 4) (tgt := 21) dX2_keepWay_4 (by decide) (fun hc => ?_) (fun hc => ?_)
  · replace hK := mm_in hc hK
    exact w_X2_keepWay_21 hd C _ _ hK
  · replace hK := mm_ip hc hK
    refine mm_aload_n C (pc := 7) 0 dX2_keepWay_7 rfl ?_
    replace hK := mm_bd hK; obtain ⟨v8, e8, hK⟩ := hK
    refine mm_getr C (pc := 8) (k := 3) inGX2 rfl (by decide) wd_273 dX2_keepWay_8 e8 ?_
    refine mm_iconst C (pc := 11) (v := (0 : Int32)) dX2_keepWay_11 (by decide) ?_
    refine mm_aload_n C (pc := 12) 0 dX2_keepWay_12 rfl ?_
    replace hK := mm_bd hK; obtain ⟨v13, e13, hK⟩ := hK
    refine mm_getr C (pc := 13) (k := 4) inGX2 rfl (by decide) wd_274 dX2_keepWay_13 e13 ?_
    refine mm_iconst C (pc := 16) (v := (0 : Int32)) dX2_keepWay_16 (by decide) ?_
    refine mm_iconst C (pc := 17) (v := (3 : Int32)) dX2_keepWay_17 (by decide) ?_
    replace hK := mm_bd hK; obtain ⟨h18, e18, hK⟩ := hK
    refine mm_copy C (pc := 18) wd_1791 wd_554 wd_553 wd_166 (by omega) (by simp [mm_crf, mm_cti, mm_ctl]) dX2_keepWay_18 e18 ?_
    exact w_X2_keepWay_21 hd C _ _ hK
theorem wd_1781 : Cond.methodLink RX2 35 yX0_calls ∈ lw_good := mm_wd 1781 (by decide +kernel) (by decide +kernel)
theorem wd_1782 : Cond.methodLink RX2 41 yJ9_min_7cf53 ∈ lw_good := mm_wd 1782 (by decide +kernel) (by decide +kernel)
theorem wd_1783 : Cond.methodLink RX2 47 yX10_many ∈ lw_good := mm_wd 1783 (by decide +kernel) (by decide +kernel)
theorem wd_1786 : Cond.methodLink RX2 58 yX1_start ∈ lw_good := mm_wd 1786 (by decide +kernel) (by decide +kernel)
theorem wd_1790 : Cond.code yX2_leadPicks cX2_leadPicks 8 (some .int) ∈ lw_good := mm_wd 1790 (by decide +kernel) (by decide +kernel)
theorem tT_X2_leadPicks : mm_T yX2_leadPicks cX2_leadPicks 8 (some .int) 3 := ⟨wd_1790, wd_146, by decide +kernel, by decide +kernel, by decide +kernel, by decide +kernel⟩
theorem wd_1787 : Cond.methodLink RX2 62 yX2_leadPicks ∈ lw_good := mm_wd 1787 (by decide +kernel) (by decide +kernel)
theorem wd_1789 : Cond.instanceMethod yX2_leadPicks ∈ lw_good := mm_wd 1789 (by decide +kernel) (by decide +kernel)
theorem wd_53 : Cond.selects RX2 yX2_leadPicks yX2_leadPicks ∈ lw_good := mm_wd 53 (by decide +kernel) (by decide +kernel)
theorem wd_1800 : Cond.code yX2_bringsTogether cX2_bringsTogether 8 (some .boolean) ∈ lw_good := mm_wd 1800 (by decide +kernel) (by decide +kernel)
theorem tT_X2_bringsTogether : mm_T yX2_bringsTogether cX2_bringsTogether 8 (some .boolean) 2 := ⟨wd_1800, wd_146, by decide +kernel, by decide +kernel, by decide +kernel, by decide +kernel⟩
theorem wd_1797 : Cond.methodLink RX2 66 yX2_bringsTogether ∈ lw_good := mm_wd 1797 (by decide +kernel) (by decide +kernel)
theorem wd_1799 : Cond.instanceMethod yX2_bringsTogether ∈ lw_good := mm_wd 1799 (by decide +kernel) (by decide +kernel)
theorem wd_54 : Cond.selects RX2 yX2_bringsTogether yX2_bringsTogether ∈ lw_good := mm_wd 54 (by decide +kernel) (by decide +kernel)
theorem wd_1812 : Cond.code yX2_keepWay cX2_keepWay 1 none ∈ lw_good := mm_wd 1812 (by decide +kernel) (by decide +kernel)
theorem tT_X2_keepWay : mm_T yX2_keepWay cX2_keepWay 1 none 0 := ⟨wd_1812, wd_146, by decide +kernel, by decide +kernel, by decide +kernel, by decide +kernel⟩
theorem wd_1809 : Cond.methodLink RX2 70 yX2_keepWay ∈ lw_good := mm_wd 1809 (by decide +kernel) (by decide +kernel)
theorem wd_1811 : Cond.instanceMethod yX2_keepWay ∈ lw_good := mm_wd 1811 (by decide +kernel) (by decide +kernel)
theorem wd_55 : Cond.selects RX2 yX2_keepWay yX2_keepWay ∈ lw_good := mm_wd 55 (by decide +kernel) (by decide +kernel)
theorem wd_1785 : Cond.methodLink RX2 55 yX0_whereTo ∈ lw_good := mm_wd 1785 (by decide +kernel) (by decide +kernel)
def F_X2_seek_182 (h : MH) : Option MH := some h
set_option maxRecDepth 20000 in
set_option maxHeartbeats 4000000 in
theorem w_X2_seek_182 {d : Nat} {V : Nat → List (Nat × Value) → List Value → MH → Prop} {hz : MH} (hd : 5 ≤ d) (C : mm_C d yX2_seek cX2_seek 9 none (.inr none) hz V) (h : MH) (hK : F_X2_seek_182  h = some hz) : V 182 [] [] h := by
  unfold F_X2_seek_182 at hK
  cases hK
  exact mm_vret C (pc := 182) rfl dX2_seek_182 rfl rfl
def F_X2_seek_176 (k98 : Option Nat → Option Nat → Option Nat → Int32 → Int32 → Int32 → Int32 → MH → Option MH) (l0 : Option Nat) (l1 : Option Nat) (l2 : Option Nat) (l3 : Int32) (l4 : Int32) (l5 : Int32) (l6 : Int32) (h : MH) : Option MH := k98 l0 l1 l2 l3 l4 l5 (l6 + (1 : Int32)) h
set_option maxRecDepth 20000 in
set_option maxHeartbeats 4000000 in
theorem w_X2_seek_176 {d : Nat} {V : Nat → List (Nat × Value) → List Value → MH → Prop} {hz : MH} {k98 : Option Nat → Option Nat → Option Nat → Int32 → Int32 → Int32 → Int32 → MH → Option MH} (hd : 5 ≤ d) (C : mm_C d yX2_seek cX2_seek 9 none (.inr none) hz V) (q98 : ∀ (x0 : Option Nat) (x1 : Option Nat) (x2 : Option Nat) (x3 : Int32) (x4 : Int32) (x5 : Int32) (x6 : Int32) (h : MH), k98 x0 x1 x2 x3 x4 x5 x6 h = some hz → V 98 [(0, va_rf x0), (1, va_rf x1), (2, va_rf x2), (3, .int x3), (4, .int x4), (5, .int x5), (6, .int x6)] [] h) (l0 : Option Nat) (l1 : Option Nat) (l2 : Option Nat) (l3 : Int32) (l4 : Int32) (l5 : Int32) (l6 : Int32) (h : MH) (hK : F_X2_seek_176 k98 l0 l1 l2 l3 l4 l5 l6 h = some hz) : V 176 [(0, va_rf l0), (1, va_rf l1), (2, va_rf l2), (3, .int l3), (4, .int l4), (5, .int l5), (6, .int l6)] [] h := by
  unfold F_X2_seek_176 at hK
  refine mm_iinc C (pc := 176) (v := (l6 + (1 : Int32))) (lv' := [(6, .int (l6 + (1 : Int32))), (0, va_rf l0), (1, va_rf l1), (2, va_rf l2), (3, .int l3), (4, .int l4), (5, .int l5)]) 6 dX2_seek_176 rfl rfl (by decide) rfl ?_
  refine mm_goto C (pc := 179) (tgt := 98) dX2_seek_179 (by decide) ?_
  refine mm_sub C [1, 2, 3, 4, 5, 6, 0] rfl ?_
  exact q98 _ _ _ _ _ _ _ _ hK
def F_X2_seek_119 (k98 : Option Nat → Option Nat → Option Nat → Int32 → Int32 → Int32 → Int32 → MH → Option MH) : Nat → Option Nat → Option Nat → Option Nat → Int32 → Int32 → Int32 → Int32 → Int32 → Int32 → MH → Option MH
  | 0 => fun _ _ _ _ _ _ _ _ _ _ => none
  | n + 1 => fun l0 l1 l2 l3 l4 l5 l6 l7 l8 h => if l8 < 0 then (mm_b2 (cV h l0 2 (F_X2_leadPicks l0 l1 l2 l4 h)) fun v152 h152 => if v152 = 0 then (F_X2_seek_176 k98 l0 l1 l2 l3 l4 l5 l6 h152) else (mm_b2 (cV h152 l0 2 (F_X2_bringsTogether l0 l1 v152 h152)) fun v166 h166 => if v166 = 0 then (F_X2_seek_176 k98 l0 l1 l2 l3 l4 l5 l6 h166) else ((cV h166 l0 2 (F_X2_keepWay l0 h166)).bind fun h173 => F_X2_seek_176 k98 l0 l1 l2 l3 l4 l5 l6 h173))) else ((gR h l0 2 3).bind fun v125 => if l3 = 0 then none else (sI h v125 0 l8 (l7 - l7 / l3 * l3)).bind fun h134 => if l3 = 0 then none else F_X2_seek_119 k98 n l0 l1 l2 l3 l4 l5 l6 (l7 / l3) (l8 + ((-1) : Int32)) h134)
set_option maxRecDepth 20000 in
set_option maxHeartbeats 4000000 in
theorem w_X2_seek_119 {d : Nat} {V : Nat → List (Nat × Value) → List Value → MH → Prop} {hz : MH} {k98 : Option Nat → Option Nat → Option Nat → Int32 → Int32 → Int32 → Int32 → MH → Option MH} (hd : 5 ≤ d) (C : mm_C d yX2_seek cX2_seek 9 none (.inr none) hz V) (q98 : ∀ (x0 : Option Nat) (x1 : Option Nat) (x2 : Option Nat) (x3 : Int32) (x4 : Int32) (x5 : Int32) (x6 : Int32) (h : MH), k98 x0 x1 x2 x3 x4 x5 x6 h = some hz → V 98 [(0, va_rf x0), (1, va_rf x1), (2, va_rf x2), (3, .int x3), (4, .int x4), (5, .int x5), (6, .int x6)] [] h) : ∀ (n : Nat) (l0 : Option Nat) (l1 : Option Nat) (l2 : Option Nat) (l3 : Int32) (l4 : Int32) (l5 : Int32) (l6 : Int32) (l7 : Int32) (l8 : Int32) (h : MH), F_X2_seek_119 k98 n l0 l1 l2 l3 l4 l5 l6 l7 l8 h = some hz → V 119 [(0, va_rf l0), (1, va_rf l1), (2, va_rf l2), (3, .int l3), (4, .int l4), (5, .int l5), (6, .int l6), (7, .int l7), (8, .int l8)] [] h := by
  intro n
  induction n with
  | zero => intro l0 l1 l2 l3 l4 l5 l6 l7 l8 h hK; cases hK
  | succ n ih =>
    intro l0 l1 l2 l3 l4 l5 l6 l7 l8 h hK
    replace hK : (if l8 < 0 then (mm_b2 (cV h l0 2 (F_X2_leadPicks l0 l1 l2 l4 h)) fun v152 h152 => if v152 = 0 then (F_X2_seek_176 k98 l0 l1 l2 l3 l4 l5 l6 h152) else (mm_b2 (cV h152 l0 2 (F_X2_bringsTogether l0 l1 v152 h152)) fun v166 h166 => if v166 = 0 then (F_X2_seek_176 k98 l0 l1 l2 l3 l4 l5 l6 h166) else ((cV h166 l0 2 (F_X2_keepWay l0 h166)).bind fun h173 => F_X2_seek_176 k98 l0 l1 l2 l3 l4 l5 l6 h173))) else ((gR h l0 2 3).bind fun v125 => if l3 = 0 then none else (sI h v125 0 l8 (l7 - l7 / l3 * l3)).bind fun h134 => if l3 = 0 then none else F_X2_seek_119 k98 n l0 l1 l2 l3 l4 l5 l6 (l7 / l3) (l8 + ((-1) : Int32)) h134)) = some hz := hK
    refine mm_iload C (pc := 119) 8 dX2_seek_119 rfl ?_
    refine mm_if_lt C (pc := 121) (tgt := 147) dX2_seek_121 (by decide) (fun hc => ?_) (fun hc => ?_)
    · replace hK := mm_ip hc hK
      refine mm_aload_n C (pc := 147) 0 dX2_seek_147 rfl ?_
      refine mm_aload_n C (pc := 148) 1 dX2_seek_148 rfl ?_
      refine mm_aload_n C (pc := 149) 2 dX2_seek_149 rfl ?_
      refine mm_iload C (pc := 150) 4 dX2_seek_150 rfl ?_
      replace hK := mm_b2s hK; obtain ⟨v152, h152, e152, hK⟩ := hK
      obtain ⟨o152, e152⟩ := cV_some e152
      refine mm_callV C (pc := 152) (d1 := 4) (As := [va_rf l1, va_rf l2, .int l4]) (st := []) (vk := (some (.int v152))) ((S_X2_leadPicks (by omega)) e152) tT_X2_leadPicks o152 (Or.inr ⟨_, rfl, rfl⟩) wd_1787 wd_1789 wd_53 (by omega) (by decide) rfl (by simp [mm_crf, mm_cti, mm_ctl]) rfl dX2_seek_152 ?_
      show V _ _ (.int v152 :: _) _
      refine mm_istore C (pc := 155) (i := 8) (lv' := [(8, .int v152), (0, va_rf l0), (1, va_rf l1), (2, va_rf l2), (3, .int l3), (4, .int l4), (5, .int l5), (6, .int l6), (7, .int l7)]) dX2_seek_155 (by decide) rfl ?_
      refine mm_iload C (pc := 157) 0 dX2_seek_157 rfl ?_
      refine mm_if_eq C (pc := 159) (tgt := 176) dX2_seek_159 (by decide) (fun hc => ?_) (fun hc => ?_)
      · replace hK := mm_ip hc hK
        refine mm_sub C [1, 2, 3, 4, 5, 6, 7] rfl ?_
        exact w_X2_seek_176 hd C (fun z0 z1 z2 z3 z4 z5 z6 z7 hK => q98 z0 z1 z2 z3 z4 z5 z6 z7 hK) _ _ _ _ _ _ _ _ hK
      · replace hK := mm_in hc hK
        refine mm_aload_n C (pc := 162) 1 dX2_seek_162 rfl ?_
        refine mm_aload_n C (pc := 163) 2 dX2_seek_163 rfl ?_
        refine mm_iload C (pc := 164) 0 dX2_seek_164 rfl ?_
        replace hK := mm_b2s hK; obtain ⟨v166, h166, e166, hK⟩ := hK
        obtain ⟨o166, e166⟩ := cV_some e166
        refine mm_callV C (pc := 166) (d1 := 4) (As := [va_rf l1, .int v152]) (st := []) (vk := (some (.int v166))) ((S_X2_bringsTogether (by omega)) e166) tT_X2_bringsTogether o166 (Or.inr ⟨_, rfl, rfl⟩) wd_1797 wd_1799 wd_54 (by omega) (by decide) rfl (by simp [mm_crf, mm_cti, mm_ctl]) rfl dX2_seek_166 ?_
        show V _ _ (.int v166 :: _) _
        refine mm_if_eq C (pc := 169) (tgt := 176) dX2_seek_169 (by decide) (fun hc => ?_) (fun hc => ?_)
        · replace hK := mm_ip hc hK
          refine mm_sub C [1, 2, 3, 4, 5, 6, 7] rfl ?_
          exact w_X2_seek_176 hd C (fun z0 z1 z2 z3 z4 z5 z6 z7 hK => q98 z0 z1 z2 z3 z4 z5 z6 z7 hK) _ _ _ _ _ _ _ _ hK
        · replace hK := mm_in hc hK
          refine mm_aload_n C (pc := 172) 1 dX2_seek_172 rfl ?_
          replace hK := mm_bd hK; obtain ⟨h173, e173, hK⟩ := hK
          obtain ⟨o173, e173⟩ := cV_some e173
          refine mm_callV C (pc := 173) (d1 := 1) (As := []) (st := []) (vk := none) ((S_X2_keepWay (by omega)) e173) tT_X2_keepWay o173 (Or.inr ⟨_, rfl, rfl⟩) wd_1809 wd_1811 wd_55 (by omega) (by decide) rfl (by simp [mm_crf, mm_cti, mm_ctl]) rfl dX2_seek_173 ?_
          show V _ _ [] _
          refine mm_sub C [1, 2, 3, 4, 5, 6, 7] rfl ?_
          exact w_X2_seek_176 hd C (fun z0 z1 z2 z3 z4 z5 z6 z7 hK => q98 z0 z1 z2 z3 z4 z5 z6 z7 hK) _ _ _ _ _ _ _ _ hK
    · replace hK := mm_in hc hK
      refine mm_aload_n C (pc := 124) 0 dX2_seek_124 rfl ?_
      replace hK := mm_bd hK; obtain ⟨v125, e125, hK⟩ := hK
      refine mm_getr C (pc := 125) (k := 3) inGX2 rfl (by decide) wd_273 dX2_seek_125 e125 ?_
      refine mm_iload C (pc := 128) 8 dX2_seek_128 rfl ?_
      refine mm_iload C (pc := 130) 7 dX2_seek_130 rfl ?_
      refine mm_iload_n C (pc := 132) 3 dX2_seek_132 rfl ?_
      by_cases hz133 : l3 = 0
      · rw [if_pos hz133] at hK; cases hK
      replace hK := mm_in hz133 hK
      refine mm_irem C (pc := 133) dX2_seek_133 hz133 ?_
      replace hK := mm_bd hK; obtain ⟨h134, e134, hK⟩ := hK
      refine mm_iast C (pc := 134) dX2_seek_134 e134 ?_
      refine mm_iload C (pc := 135) 7 dX2_seek_135 rfl ?_
      refine mm_iload_n C (pc := 137) 3 dX2_seek_137 rfl ?_
      by_cases hz138 : l3 = 0
      · rw [if_pos hz138] at hK; cases hK
      replace hK := mm_in hz138 hK
      refine mm_idiv C (pc := 138) dX2_seek_138 hz138 ?_
      refine mm_istore C (pc := 139) (i := 7) (lv' := [(7, .int (l7 / l3)), (0, va_rf l0), (1, va_rf l1), (2, va_rf l2), (3, .int l3), (4, .int l4), (5, .int l5), (6, .int l6), (8, .int l8)]) dX2_seek_139 (by decide) rfl ?_
      refine mm_iinc C (pc := 141) (v := (l8 + ((-1) : Int32))) (lv' := [(8, .int (l8 + ((-1) : Int32))), (7, .int (l7 / l3)), (0, va_rf l0), (1, va_rf l1), (2, va_rf l2), (3, .int l3), (4, .int l4), (5, .int l5), (6, .int l6)]) 8 dX2_seek_141 rfl rfl (by decide) rfl ?_
      refine mm_goto C (pc := 144) (tgt := 119) dX2_seek_144 (by decide) ?_
      refine mm_sub C [2, 3, 4, 5, 6, 7, 8, 1, 0] rfl ?_
      exact ih _ _ _ _ _ _ _ _ _ _ hK
def F_X2_seek_98 : Nat → Option Nat → Option Nat → Option Nat → Int32 → Int32 → Int32 → Int32 → MH → Option MH
  | 0 => fun _ _ _ _ _ _ _ _ => none
  | n + 1 => fun l0 l1 l2 l3 l4 l5 l6 h => if l5 ≤ l6 then (F_X2_seek_182 h) else (if l3 ≤ 0 then (F_X2_seek_182 h) else (F_X2_seek_119 (F_X2_seek_98 n) mm_N l0 l1 l2 l3 l4 l5 l6 l6 (l4 - (1 : Int32)) h))
set_option maxRecDepth 20000 in
set_option maxHeartbeats 4000000 in
theorem w_X2_seek_98 {d : Nat} {V : Nat → List (Nat × Value) → List Value → MH → Prop} {hz : MH} (hd : 5 ≤ d) (C : mm_C d yX2_seek cX2_seek 9 none (.inr none) hz V) : ∀ (n : Nat) (l0 : Option Nat) (l1 : Option Nat) (l2 : Option Nat) (l3 : Int32) (l4 : Int32) (l5 : Int32) (l6 : Int32) (h : MH), F_X2_seek_98 n l0 l1 l2 l3 l4 l5 l6 h = some hz → V 98 [(0, va_rf l0), (1, va_rf l1), (2, va_rf l2), (3, .int l3), (4, .int l4), (5, .int l5), (6, .int l6)] [] h := by
  intro n
  induction n with
  | zero => intro l0 l1 l2 l3 l4 l5 l6 h hK; cases hK
  | succ n ih =>
    intro l0 l1 l2 l3 l4 l5 l6 h hK
    replace hK : (if l5 ≤ l6 then (F_X2_seek_182 h) else (if l3 ≤ 0 then (F_X2_seek_182 h) else (F_X2_seek_119 (F_X2_seek_98 n) mm_N l0 l1 l2 l3 l4 l5 l6 l6 (l4 - (1 : Int32)) h))) = some hz := hK
    refine mm_iload C (pc := 98) 6 dX2_seek_98 rfl ?_
    refine mm_iload C (pc := 100) 5 dX2_seek_100 rfl ?_
    refine mm_icmp_ge C (pc := 102) (tgt := 182) dX2_seek_102 (by decide) (fun hc => ?_) (fun hc => ?_)
    · replace hK := mm_ip hc hK
      refine mm_sub C [] rfl ?_
      exact w_X2_seek_182 hd C _ hK
    · replace hK := mm_in hc hK
      refine mm_iload_n C (pc := 105) 3 dX2_seek_105 rfl ?_
      refine mm_if_le C (pc := 106) (tgt := 182) dX2_seek_106 (by decide) (fun hc => ?_) (fun hc => ?_)
      · replace hK := mm_ip hc hK
        refine mm_sub C [] rfl ?_
        exact w_X2_seek_182 hd C _ hK
      · replace hK := mm_in hc hK
        refine mm_iload C (pc := 109) 6 dX2_seek_109 rfl ?_
        refine mm_istore C (pc := 111) (i := 7) (lv' := [(7, .int l6), (0, va_rf l0), (1, va_rf l1), (2, va_rf l2), (3, .int l3), (4, .int l4), (5, .int l5), (6, .int l6)]) dX2_seek_111 (by decide) rfl ?_
        refine mm_iload C (pc := 113) 5 dX2_seek_113 rfl ?_
        refine mm_iconst C (pc := 115) (v := (1 : Int32)) dX2_seek_115 (by decide) ?_
        refine mm_isub C (pc := 116) dX2_seek_116 ?_
        refine mm_istore C (pc := 117) (i := 8) (lv' := [(8, .int (l4 - (1 : Int32))), (7, .int l6), (0, va_rf l0), (1, va_rf l1), (2, va_rf l2), (3, .int l3), (4, .int l4), (5, .int l5), (6, .int l6)]) dX2_seek_117 (by decide) rfl ?_
        refine mm_sub C [2, 3, 4, 5, 6, 7, 8, 1, 0] rfl ?_
        exact w_X2_seek_119 hd C (fun z0 z1 z2 z3 z4 z5 z6 z7 hK => ih z0 z1 z2 z3 z4 z5 z6 z7 hK) _ _ _ _ _ _ _ _ _ _ _ hK
def F_X2_seek_50 : Nat → Option Nat → Option Nat → Option Nat → Int32 → Int32 → Int32 → Int32 → MH → Option MH
  | 0 => fun _ _ _ _ _ _ _ _ => none
  | n + 1 => fun l0 l1 l2 l3 l4 l5 l6 h => if l3 ≤ l6 then ((gR h l0 2 0).bind fun v83 => (cV h v83 1 (F_X1_start v83 l1 h)).bind fun h87 => (pI h87 l0 2 5 (0 : Int32)).bind fun h92 => F_X2_seek_98 mm_N l0 l1 l2 l3 l4 l5 (0 : Int32) h92) else ((gR h l0 2 1).bind fun v57 => mm_b2 (cV h l1 0 (F_X0_fact l1 l6 (2 : Int32) h)) fun v69 h69 => mm_b2 (cV h69 l1 0 (F_X0_whereTo l1 l6 v69 h69)) fun v72 h72 => (sI h72 v57 0 l6 v72).bind fun h75 => F_X2_seek_50 n l0 l1 l2 l3 l4 l5 (l6 + (1 : Int32)) h75)
set_option maxRecDepth 20000 in
set_option maxHeartbeats 4000000 in
theorem w_X2_seek_50 {d : Nat} {V : Nat → List (Nat × Value) → List Value → MH → Prop} {hz : MH} (hd : 5 ≤ d) (C : mm_C d yX2_seek cX2_seek 9 none (.inr none) hz V) : ∀ (n : Nat) (l0 : Option Nat) (l1 : Option Nat) (l2 : Option Nat) (l3 : Int32) (l4 : Int32) (l5 : Int32) (l6 : Int32) (h : MH), F_X2_seek_50 n l0 l1 l2 l3 l4 l5 l6 h = some hz → V 50 [(0, va_rf l0), (1, va_rf l1), (2, va_rf l2), (3, .int l3), (4, .int l4), (5, .int l5), (6, .int l6)] [] h := by
  intro n
  induction n with
  | zero => intro l0 l1 l2 l3 l4 l5 l6 h hK; cases hK
  | succ n ih =>
    intro l0 l1 l2 l3 l4 l5 l6 h hK
    replace hK : (if l3 ≤ l6 then ((gR h l0 2 0).bind fun v83 => (cV h v83 1 (F_X1_start v83 l1 h)).bind fun h87 => (pI h87 l0 2 5 (0 : Int32)).bind fun h92 => F_X2_seek_98 mm_N l0 l1 l2 l3 l4 l5 (0 : Int32) h92) else ((gR h l0 2 1).bind fun v57 => mm_b2 (cV h l1 0 (F_X0_fact l1 l6 (2 : Int32) h)) fun v69 h69 => mm_b2 (cV h69 l1 0 (F_X0_whereTo l1 l6 v69 h69)) fun v72 h72 => (sI h72 v57 0 l6 v72).bind fun h75 => F_X2_seek_50 n l0 l1 l2 l3 l4 l5 (l6 + (1 : Int32)) h75)) = some hz := hK
    refine mm_iload C (pc := 50) 6 dX2_seek_50 rfl ?_
    refine mm_iload_n C (pc := 52) 3 dX2_seek_52 rfl ?_
    refine mm_icmp_ge C (pc := 53) (tgt := 82) dX2_seek_53 (by decide) (fun hc => ?_) (fun hc => ?_)
    · replace hK := mm_ip hc hK
      refine mm_aload_n C (pc := 82) 0 dX2_seek_82 rfl ?_
      replace hK := mm_bd hK; obtain ⟨v83, e83, hK⟩ := hK
      refine mm_getr C (pc := 83) (k := 0) inGX2 rfl (by decide) wd_270 dX2_seek_83 e83 ?_
      refine mm_aload_n C (pc := 86) 1 dX2_seek_86 rfl ?_
      replace hK := mm_bd hK; obtain ⟨h87, e87, hK⟩ := hK
      obtain ⟨o87, e87⟩ := cV_some e87
      refine mm_callV C (pc := 87) (d1 := 3) (As := [va_rf l1]) (st := []) (vk := none) ((S_X1_start (by omega)) e87) tT_X1_start o87 (Or.inr ⟨_, rfl, rfl⟩) wd_1786 wd_985 wd_986 (by omega) (by decide) rfl (by simp [mm_crf, mm_cti, mm_ctl]) rfl dX2_seek_87 ?_
      show V _ _ [] _
      refine mm_aload_n C (pc := 90) 0 dX2_seek_90 rfl ?_
      refine mm_iconst C (pc := 91) (v := (0 : Int32)) dX2_seek_91 (by decide) ?_
      replace hK := mm_bd hK; obtain ⟨h92, e92, hK⟩ := hK
      refine mm_puti C (pc := 92) (k := 5) false (fun z => by cases z) inGX2 tyX2 tyX2_ok nmX2 rfl (by decide) wd_275 rfl rfl dX2_seek_92 e92 ?_
      refine mm_iconst C (pc := 95) (v := (0 : Int32)) dX2_seek_95 (by decide) ?_
      refine mm_istore C (pc := 96) (i := 6) (lv' := [(6, .int (0 : Int32)), (0, va_rf l0), (1, va_rf l1), (2, va_rf l2), (3, .int l3), (4, .int l4), (5, .int l5)]) dX2_seek_96 (by decide) rfl ?_
      refine mm_sub C [1, 2, 3, 4, 5, 6, 0] rfl ?_
      exact w_X2_seek_98 hd C _ _ _ _ _ _ _ _ _ hK
    · replace hK := mm_in hc hK
      refine mm_aload_n C (pc := 56) 0 dX2_seek_56 rfl ?_
      replace hK := mm_bd hK; obtain ⟨v57, e57, hK⟩ := hK
      refine mm_getr C (pc := 57) (k := 1) inGX2 rfl (by decide) wd_271 dX2_seek_57 e57 ?_
      refine mm_iload C (pc := 60) 6 dX2_seek_60 rfl ?_
      refine mm_aload_n C (pc := 62) 1 dX2_seek_62 rfl ?_
      refine mm_iload C (pc := 63) 6 dX2_seek_63 rfl ?_
      refine mm_aload_n C (pc := 65) 1 dX2_seek_65 rfl ?_
      refine mm_iload C (pc := 66) 6 dX2_seek_66 rfl ?_
      refine mm_iconst C (pc := 68) (v := (2 : Int32)) dX2_seek_68 (by decide) ?_
      replace hK := mm_b2s hK; obtain ⟨v69, h69, e69, hK⟩ := hK
      obtain ⟨o69, e69⟩ := cV_some e69
      refine mm_callV C (pc := 69) (d1 := 1) (As := [.int l6, .int (2 : Int32)]) (st := [.int l6, va_rf l1, .int l6, va_rf v57]) (vk := (some (.int v69))) ((S_X0_fact (by omega)) e69) tT_X0_fact o69 (Or.inr ⟨_, rfl, rfl⟩) wd_1784 wd_961 wd_962 (by omega) (by decide) rfl (by simp [mm_crf, mm_cti, mm_ctl]) rfl dX2_seek_69 ?_
      show V _ _ (.int v69 :: _) _
      replace hK := mm_b2s hK; obtain ⟨v72, h72, e72, hK⟩ := hK
      obtain ⟨o72, e72⟩ := cV_some e72
      refine mm_callV C (pc := 72) (d1 := 3) (As := [.int l6, .int v69]) (st := [.int l6, va_rf v57]) (vk := (some (.int v72))) ((S_X0_whereTo (by omega)) e72) tT_X0_whereTo o72 (Or.inr ⟨_, rfl, rfl⟩) wd_1785 wd_1030 wd_1031 (by omega) (by decide) rfl (by simp [mm_crf, mm_cti, mm_ctl]) rfl dX2_seek_72 ?_
      show V _ _ (.int v72 :: _) _
      replace hK := mm_bd hK; obtain ⟨h75, e75, hK⟩ := hK
      refine mm_iast C (pc := 75) dX2_seek_75 e75 ?_
      refine mm_iinc C (pc := 76) (v := (l6 + (1 : Int32))) (lv' := [(6, .int (l6 + (1 : Int32))), (0, va_rf l0), (1, va_rf l1), (2, va_rf l2), (3, .int l3), (4, .int l4), (5, .int l5)]) 6 dX2_seek_76 rfl rfl (by decide) rfl ?_
      refine mm_goto C (pc := 79) (tgt := 50) dX2_seek_79 (by decide) ?_
      refine mm_sub C [1, 2, 3, 4, 5, 6, 0] rfl ?_
      exact ih _ _ _ _ _ _ _ _ hK
def F_X2_seek_28 : Nat → Option Nat → Option Nat → Option Nat → Int32 → Int32 → Int32 → Int32 → MH → Option MH
  | 0 => fun _ _ _ _ _ _ _ _ => none
  | n + 1 => fun l0 l1 l2 l3 l4 l5 l6 h => if l4 ≤ l6 then (F_X2_seek_50 mm_N l0 l1 l2 l3 l4 l5 (0 : Int32) h) else (F_X2_seek_28 n l0 l1 l2 l3 l4 (l5 * l3) (l6 + (1 : Int32)) h)
set_option maxRecDepth 20000 in
set_option maxHeartbeats 4000000 in
theorem w_X2_seek_28 {d : Nat} {V : Nat → List (Nat × Value) → List Value → MH → Prop} {hz : MH} (hd : 5 ≤ d) (C : mm_C d yX2_seek cX2_seek 9 none (.inr none) hz V) : ∀ (n : Nat) (l0 : Option Nat) (l1 : Option Nat) (l2 : Option Nat) (l3 : Int32) (l4 : Int32) (l5 : Int32) (l6 : Int32) (h : MH), F_X2_seek_28 n l0 l1 l2 l3 l4 l5 l6 h = some hz → V 28 [(0, va_rf l0), (1, va_rf l1), (2, va_rf l2), (3, .int l3), (4, .int l4), (5, .int l5), (6, .int l6)] [] h := by
  intro n
  induction n with
  | zero => intro l0 l1 l2 l3 l4 l5 l6 h hK; cases hK
  | succ n ih =>
    intro l0 l1 l2 l3 l4 l5 l6 h hK
    replace hK : (if l4 ≤ l6 then (F_X2_seek_50 mm_N l0 l1 l2 l3 l4 l5 (0 : Int32) h) else (F_X2_seek_28 n l0 l1 l2 l3 l4 (l5 * l3) (l6 + (1 : Int32)) h)) = some hz := hK
    refine mm_iload C (pc := 28) 6 dX2_seek_28 rfl ?_
    refine mm_iload C (pc := 30) 4 dX2_seek_30 rfl ?_
    refine mm_icmp_ge C (pc := 32) (tgt := 47) dX2_seek_32 (by decide) (fun hc => ?_) (fun hc => ?_)
    · replace hK := mm_ip hc hK
      refine mm_iconst C (pc := 47) (v := (0 : Int32)) dX2_seek_47 (by decide) ?_
      refine mm_istore C (pc := 48) (i := 6) (lv' := [(6, .int (0 : Int32)), (0, va_rf l0), (1, va_rf l1), (2, va_rf l2), (3, .int l3), (4, .int l4), (5, .int l5)]) dX2_seek_48 (by decide) rfl ?_
      refine mm_sub C [1, 2, 3, 4, 5, 6, 0] rfl ?_
      exact w_X2_seek_50 hd C _ _ _ _ _ _ _ _ _ hK
    · replace hK := mm_in hc hK
      refine mm_iload C (pc := 35) 5 dX2_seek_35 rfl ?_
      refine mm_iload_n C (pc := 37) 3 dX2_seek_37 rfl ?_
      refine mm_imul C (pc := 38) dX2_seek_38 ?_
      refine mm_istore C (pc := 39) (i := 5) (lv' := [(5, .int (l5 * l3)), (0, va_rf l0), (1, va_rf l1), (2, va_rf l2), (3, .int l3), (4, .int l4), (6, .int l6)]) dX2_seek_39 (by decide) rfl ?_
      refine mm_iinc C (pc := 41) (v := (l6 + (1 : Int32))) (lv' := [(6, .int (l6 + (1 : Int32))), (5, .int (l5 * l3)), (0, va_rf l0), (1, va_rf l1), (2, va_rf l2), (3, .int l3), (4, .int l4)]) 6 dX2_seek_41 rfl rfl (by decide) rfl ?_
      refine mm_goto C (pc := 44) (tgt := 28) dX2_seek_44 (by decide) ?_
      refine mm_sub C [2, 3, 4, 5, 6, 1, 0] rfl ?_
      exact ih _ _ _ _ _ _ _ _ hK
def F_X2_seek (a0 : Option Nat) (a1 : Option Nat) (a2 : Option Nat) (h : MH) : Option MH := mm_b2 (cV h a1 0 (F_X0_calls a1 h)) fun v1 h1 => mm_b2 (cV h1 a2 10 (F_X10_many a2 h1)) fun v11 h11 => F_X2_seek_28 mm_N a0 a1 a2 (mnI v1 (10 : Int32)) (mnI (v11 / (2 : Int32)) (3 : Int32)) (1 : Int32) (0 : Int32) h11
set_option maxRecDepth 20000 in
set_option maxHeartbeats 4000000 in
theorem S_X2_seek {d : Nat} (hd : 5 ≤ d) {a0 : Option Nat} {a1 : Option Nat} {a2 : Option Nat} {h : MH} {hz : MH} (hK : F_X2_seek a0 a1 a2 h = some hz) : mm_M yX2_seek cX2_seek 9 none d [va_rf a0, va_rf a1, va_rf a2] h (.inr none) hz := by
  refine mm_ofV (by decide +kernel) (by simp [lg_sl, mm_crf, mm_cti, mm_ctl]) (fun V C => ?_)
  rw [show lv_args 0 [va_rf a0, va_rf a1, va_rf a2] = [(0, va_rf a0), (1, va_rf a1), (2, va_rf a2)] by simp [lv_args, mm_crf, mm_cti, mm_ctl]]
  unfold F_X2_seek at hK
  refine mm_aload_n C (pc := 0) 1 dX2_seek_0 rfl ?_
  replace hK := mm_b2s hK; obtain ⟨v1, h1, e1, hK⟩ := hK
  obtain ⟨o1, e1⟩ := cV_some e1
  refine mm_callV C (pc := 1) (d1 := 1) (As := []) (st := []) (vk := (some (.int v1))) ((S_X0_calls (by omega)) e1) tT_X0_calls o1 (Or.inr ⟨_, rfl, rfl⟩) wd_1781 wd_919 wd_920 (by omega) (by decide) rfl (by simp [mm_crf, mm_cti, mm_ctl]) rfl dX2_seek_1 ?_
  show V _ _ (.int v1 :: _) _
  refine mm_bipush C (pc := 4) (v := (10 : Int32)) dX2_seek_4 (by decide) ?_
  refine mm_mmin C (pc := 6) wd_1782 wd_409 wd_152 wd_410 (by omega) (by simp [mm_crf, mm_cti, mm_ctl]) dX2_seek_6 ?_
  refine mm_istore_n C (pc := 9) (i := 3) (lv' := [(3, .int (mnI v1 (10 : Int32))), (0, va_rf a0), (1, va_rf a1), (2, va_rf a2)]) dX2_seek_9 rfl (by decide) (by simp [mm_crf]) ?_
  refine mm_aload_n C (pc := 10) 3 dX2_seek_10 rfl ?_
  replace hK := mm_b2s hK; obtain ⟨v11, h11, e11, hK⟩ := hK
  obtain ⟨o11, e11⟩ := cV_some e11
  refine mm_callV C (pc := 11) (d1 := 1) (As := []) (st := []) (vk := (some (.int v11))) ((S_X10_many (by omega)) e11) tT_X10_many o11 (Or.inr ⟨_, rfl, rfl⟩) wd_1783 wd_1571 wd_1572 (by omega) (by decide) rfl (by simp [mm_crf, mm_cti, mm_ctl]) rfl dX2_seek_11 ?_
  show V _ _ (.int v11 :: _) _
  refine mm_iconst C (pc := 14) (v := (2 : Int32)) dX2_seek_14 (by decide) ?_
  refine mm_idiv C (pc := 15) dX2_seek_15 (by decide) ?_
  refine mm_iconst C (pc := 16) (v := (3 : Int32)) dX2_seek_16 (by decide) ?_
  refine mm_mmin C (pc := 17) wd_1782 wd_409 wd_152 wd_410 (by omega) (by simp [mm_crf, mm_cti, mm_ctl]) dX2_seek_17 ?_
  refine mm_istore C (pc := 20) (i := 4) (lv' := [(4, .int (mnI (v11 / (2 : Int32)) (3 : Int32))), (3, .int (mnI v1 (10 : Int32))), (0, va_rf a0), (1, va_rf a1), (2, va_rf a2)]) dX2_seek_20 (by decide) rfl ?_
  refine mm_iconst C (pc := 22) (v := (1 : Int32)) dX2_seek_22 (by decide) ?_
  refine mm_istore C (pc := 23) (i := 5) (lv' := [(5, .int (1 : Int32)), (4, .int (mnI (v11 / (2 : Int32)) (3 : Int32))), (3, .int (mnI v1 (10 : Int32))), (0, va_rf a0), (1, va_rf a1), (2, va_rf a2)]) dX2_seek_23 (by decide) rfl ?_
  refine mm_iconst C (pc := 25) (v := (0 : Int32)) dX2_seek_25 (by decide) ?_
  refine mm_istore C (pc := 26) (i := 6) (lv' := [(6, .int (0 : Int32)), (5, .int (1 : Int32)), (4, .int (mnI (v11 / (2 : Int32)) (3 : Int32))), (3, .int (mnI v1 (10 : Int32))), (0, va_rf a0), (1, va_rf a1), (2, va_rf a2)]) dX2_seek_26 (by decide) rfl ?_
  refine mm_sub C [4, 5, 6, 3, 2, 1, 0] rfl ?_
  exact w_X2_seek_28 hd C _ _ _ _ _ _ _ _ _ hK
def F_X2_firstOf_26 (s0 : Int32) (h : MH) : Option (Int32 × MH) := some (s0, h)
set_option maxRecDepth 20000 in
set_option maxHeartbeats 4000000 in
theorem w_X2_firstOf_26 {d : Nat} {V : Nat → List (Nat × Value) → List Value → MH → Prop} {r : Int32} {hz : MH} (hd : 1 ≤ d) (C : mm_C d yX2_firstOf cX2_firstOf 2 (some .int) (.inr (some (.int r))) hz V) (s0 : Int32) (h : MH) (hK : F_X2_firstOf_26 s0 h = some (r, hz)) : V 26 [] [.int s0] h := by
  unfold F_X2_firstOf_26 at hK
  cases hK
  exact mm_iret C (pc := 26) rfl dX2_firstOf_26 rfl rfl
def F_X2_firstOf_25 (h : MH) : Option (Int32 × MH) := F_X2_firstOf_26 ((-1) : Int32) h
set_option maxRecDepth 20000 in
set_option maxHeartbeats 4000000 in
theorem w_X2_firstOf_25 {d : Nat} {V : Nat → List (Nat × Value) → List Value → MH → Prop} {r : Int32} {hz : MH} (hd : 1 ≤ d) (C : mm_C d yX2_firstOf cX2_firstOf 2 (some .int) (.inr (some (.int r))) hz V) (h : MH) (hK : F_X2_firstOf_25  h = some (r, hz)) : V 25 [] [] h := by
  unfold F_X2_firstOf_25 at hK
  refine mm_iconst C (pc := 25) (v := ((-1) : Int32)) dX2_firstOf_25 (by decide) ?_
  exact w_X2_firstOf_26 hd C _ _ hK
def F_X2_firstOf (a0 : Option Nat) (a1 : Int32) (h : MH) : Option (Int32 × MH) := (gI h a0 2 5).bind fun v1 => if v1 ≤ 0 then (F_X2_firstOf_25 h) else (if a1 < 0 then (F_X2_firstOf_25 h) else (if (3 : Int32) ≤ a1 then (F_X2_firstOf_25 h) else ((gR h a0 2 4).bind fun v17 => (aI h v17 0 a1).bind fun v21 => F_X2_firstOf_26 v21 h)))
set_option maxRecDepth 20000 in
set_option maxHeartbeats 4000000 in
theorem S_X2_firstOf {d : Nat} (hd : 1 ≤ d) {a0 : Option Nat} {a1 : Int32} {h : MH} {r : Int32} {hz : MH} (hK : F_X2_firstOf a0 a1 h = some (r, hz)) : mm_M yX2_firstOf cX2_firstOf 2 (some .int) d [va_rf a0, .int a1] h (.inr (some (.int r))) hz := by
  refine mm_ofV (by decide +kernel) (by simp [lg_sl, mm_crf, mm_cti, mm_ctl]) (fun V C => ?_)
  rw [show lv_args 0 [va_rf a0, .int a1] = [(0, va_rf a0), (1, .int a1)] by simp [lv_args, mm_crf, mm_cti, mm_ctl]]
  unfold F_X2_firstOf at hK
  refine mm_aload_n C (pc := 0) 0 dX2_firstOf_0 rfl ?_
  replace hK := mm_bd hK; obtain ⟨v1, e1, hK⟩ := hK
  refine mm_geti C (pc := 1) (k := 5) inGX2 rfl (by decide) wd_275 dX2_firstOf_1 e1 ?_
  refine mm_if_le C (pc := 4) (tgt := 25) dX2_firstOf_4 (by decide) (fun hc => ?_) (fun hc => ?_)
  · replace hK := mm_ip hc hK
    refine mm_sub C [] rfl ?_
    exact w_X2_firstOf_25 hd C _ hK
  · replace hK := mm_in hc hK
    refine mm_iload_n C (pc := 7) 1 dX2_firstOf_7 rfl ?_
    refine mm_if_lt C (pc := 8) (tgt := 25) dX2_firstOf_8 (by decide) (fun hc => ?_) (fun hc => ?_)
    · replace hK := mm_ip hc hK
      refine mm_sub C [] rfl ?_
      exact w_X2_firstOf_25 hd C _ hK
    · replace hK := mm_in hc hK
      refine mm_iload_n C (pc := 11) 1 dX2_firstOf_11 rfl ?_
      refine mm_iconst C (pc := 12) (v := (3 : Int32)) dX2_firstOf_12 (by decide) ?_
      refine mm_icmp_ge C (pc := 13) (tgt := 25) dX2_firstOf_13 (by decide) (fun hc => ?_) (fun hc => ?_)
      · replace hK := mm_ip hc hK
        refine mm_sub C [] rfl ?_
        exact w_X2_firstOf_25 hd C _ hK
      · replace hK := mm_in hc hK
        refine mm_aload_n C (pc := 16) 0 dX2_firstOf_16 rfl ?_
        replace hK := mm_bd hK; obtain ⟨v17, e17, hK⟩ := hK
        refine mm_getr C (pc := 17) (k := 4) inGX2 rfl (by decide) wd_274 dX2_firstOf_17 e17 ?_
        refine mm_iload_n C (pc := 20) 1 dX2_firstOf_20 rfl ?_
        replace hK := mm_bd hK; obtain ⟨v21, e21, hK⟩ := hK
        refine mm_iald C (pc := 21) dX2_firstOf_21 e21 ?_
        refine mm_goto C (pc := 22) (tgt := 26) dX2_firstOf_22 (by decide) ?_
        refine mm_sub C [] rfl ?_
        exact w_X2_firstOf_26 hd C _ _ hK
theorem wd_1780 : Cond.code yX2_seek cX2_seek 9 none ∈ lw_good := mm_wd 1780 (by decide +kernel) (by decide +kernel)
theorem tT_X2_seek : mm_T yX2_seek cX2_seek 9 none 2 := ⟨wd_1780, wd_146, by decide +kernel, by decide +kernel, by decide +kernel, by decide +kernel⟩
theorem wd_1777 : Cond.methodLink RX11 329 yX2_seek ∈ lw_good := mm_wd 1777 (by decide +kernel) (by decide +kernel)
theorem wd_1778 : Cond.instanceMethod yX2_seek ∈ lw_good := mm_wd 1778 (by decide +kernel) (by decide +kernel)
theorem wd_1779 : Cond.selects RX2 yX2_seek yX2_seek ∈ lw_good := mm_wd 1779 (by decide +kernel) (by decide +kernel)
theorem wd_1816 : Cond.code yX2_firstOf cX2_firstOf 2 (some .int) ∈ lw_good := mm_wd 1816 (by decide +kernel) (by decide +kernel)
theorem tT_X2_firstOf : mm_T yX2_firstOf cX2_firstOf 2 (some .int) 1 := ⟨wd_1816, wd_146, by decide +kernel, by decide +kernel, by decide +kernel, by decide +kernel⟩
theorem wd_1813 : Cond.methodLink RX11 333 yX2_firstOf ∈ lw_good := mm_wd 1813 (by decide +kernel) (by decide +kernel)
theorem wd_1814 : Cond.instanceMethod yX2_firstOf ∈ lw_good := mm_wd 1814 (by decide +kernel) (by decide +kernel)
theorem wd_1815 : Cond.selects RX2 yX2_firstOf yX2_firstOf ∈ lw_good := mm_wd 1815 (by decide +kernel) (by decide +kernel)
def F_X11_crossed (a0 : Option Nat) (a1 : Int32) (a2 : Int32) (h : MH) : Option ((String ⊕ Int32) × MH) := mm_b3 (cV h a0 11 (F_X11_toldTray a0 a1 h)) fun v2 h2 => mm_b3 (cV h2 a0 11 (F_X11_needTwos a0 v2 h2)) fun _ h8 => mm_b2 (cV h8 v2 10 (F_X10_many v2 h8)) fun v14 h14 => mm_b3 (F_X11_needWithin a2 (0 : Int32) ((v14 / (2 : Int32)) - (1 : Int32)) h14) fun _ h21 => (gR h21 a0 11 12).bind fun v25 => (gR h21 a0 11 5).bind fun v29 => (cV h21 v25 2 (F_X2_seek v25 v29 v2 h21)).bind fun h33 => (gR h33 a0 11 12).bind fun v37 => mm_b2 (cV h33 v37 2 (F_X2_firstOf v37 a2 h33)) fun v41 h41 => some (.inr v41, h41)
set_option maxRecDepth 20000 in
set_option maxHeartbeats 4000000 in
theorem S_X11_crossed {d : Nat} (hd : 8 ≤ d) {a0 : Option Nat} {a1 : Int32} {a2 : Int32} {h : MH} {r : String ⊕ Int32} {hz : MH} (hK : F_X11_crossed a0 a1 a2 h = some (r, hz)) : mm_M yX11_crossed cX11_crossed 4 (some .int) d [va_rf a0, .int a1, .int a2] h (mm_oi r) hz := by
  refine mm_ofV (by decide +kernel) (by simp [lg_sl, mm_crf, mm_cti, mm_ctl]) (fun V C => ?_)
  rw [show lv_args 0 [va_rf a0, .int a1, .int a2] = [(0, va_rf a0), (1, .int a1), (2, .int a2)] by simp [lv_args, mm_crf, mm_cti, mm_ctl]]
  unfold F_X11_crossed at hK
  refine mm_aload_n C (pc := 0) 0 dX11_crossed_0 rfl ?_
  refine mm_iload_n C (pc := 1) 1 dX11_crossed_1 rfl ?_
  replace hK := mm_b3s hK; rcases hK with ⟨E2, e2, rfl⟩ | ⟨v2, h2, e2, hK⟩
  · obtain ⟨o2, e2⟩ := cV_some e2
    exact mm_callVX C (pc := 2) (d1 := 7) (As := [.int a1]) (st := []) ((S_X11_toldTray (by omega)) e2) tT_X11_toldTray o2 (Or.inr ⟨_, rfl, rfl⟩) wd_1541 wd_1543 wd_40 (by omega) (by decide) rfl (by simp [mm_crf, mm_cti, mm_ctl]) rfl dX11_crossed_2 rfl rfl
  obtain ⟨o2, e2⟩ := cV_some e2
  refine mm_callV C (pc := 2) (d1 := 7) (As := [.int a1]) (st := []) (vk := (some (va_rf v2))) ((S_X11_toldTray (by omega)) e2) tT_X11_toldTray o2 (Or.inr ⟨_, rfl, rfl⟩) wd_1541 wd_1543 wd_40 (by omega) (by decide) rfl (by simp [mm_crf, mm_cti, mm_ctl]) rfl dX11_crossed_2 ?_
  show V _ _ (va_rf v2 :: _) _
  refine mm_astore_n C (pc := 5) (i := 3) (lv' := [(3, va_rf v2), (0, va_rf a0), (1, .int a1), (2, .int a2)]) dX11_crossed_5 rfl (by decide) rfl ?_
  refine mm_aload_n C (pc := 6) 1 dX11_crossed_6 rfl ?_
  refine mm_aload_n C (pc := 7) 0 dX11_crossed_7 rfl ?_
  replace hK := mm_b3s hK; rcases hK with ⟨E8, e8, rfl⟩ | ⟨v8, h8, e8, hK⟩
  · obtain ⟨o8, e8⟩ := cV_some e8
    exact mm_callVX C (pc := 8) (d1 := 7) (As := [va_rf v2]) (st := []) ((S_X11_needTwos (by omega)) e8) tT_X11_needTwos o8 (Or.inr ⟨_, rfl, rfl⟩) wd_1755 wd_1757 wd_50 (by omega) (by decide) rfl (by simp [mm_crf, mm_cti, mm_ctl]) rfl dX11_crossed_8 rfl rfl
  obtain ⟨o8, e8⟩ := cV_some e8
  refine mm_callV C (pc := 8) (d1 := 7) (As := [va_rf v2]) (st := []) (vk := none) ((S_X11_needTwos (by omega)) e8) tT_X11_needTwos o8 (Or.inr ⟨_, rfl, rfl⟩) wd_1755 wd_1757 wd_50 (by omega) (by decide) rfl (by simp [mm_crf, mm_cti, mm_ctl]) rfl dX11_crossed_8 ?_
  show V _ _ [] _
  refine mm_iload_n C (pc := 11) 3 dX11_crossed_11 rfl ?_
  refine mm_iconst C (pc := 12) (v := (0 : Int32)) dX11_crossed_12 (by decide) ?_
  refine mm_aload_n C (pc := 13) 0 dX11_crossed_13 rfl ?_
  replace hK := mm_b2s hK; obtain ⟨v14, h14, e14, hK⟩ := hK
  obtain ⟨o14, e14⟩ := cV_some e14
  refine mm_callV C (pc := 14) (d1 := 1) (As := []) (st := [.int (0 : Int32), .int a2]) (vk := (some (.int v14))) ((S_X10_many (by omega)) e14) tT_X10_many o14 (Or.inr ⟨_, rfl, rfl⟩) wd_1570 wd_1571 wd_1572 (by omega) (by decide) rfl (by simp [mm_crf, mm_cti, mm_ctl]) rfl dX11_crossed_14 ?_
  show V _ _ (.int v14 :: _) _
  refine mm_iconst C (pc := 17) (v := (2 : Int32)) dX11_crossed_17 (by decide) ?_
  refine mm_idiv C (pc := 18) dX11_crossed_18 (by decide) ?_
  refine mm_iconst C (pc := 19) (v := (1 : Int32)) dX11_crossed_19 (by decide) ?_
  refine mm_isub C (pc := 20) dX11_crossed_20 ?_
  replace hK := mm_b3s hK; rcases hK with ⟨E21, e21, rfl⟩ | ⟨v21, h21, e21, hK⟩
  · skip
    exact mm_callSX C (pc := 21) (d1 := 6) (As := [.int a2, .int (0 : Int32), .int ((v14 / (2 : Int32)) - (1 : Int32))]) (st := []) ((S_X11_needWithin (by omega)) e21) tT_X11_needWithin wd_1163 wd_1164 (by omega) (by decide) rfl (by simp [mm_crf, mm_cti, mm_ctl]) rfl dX11_crossed_21 rfl rfl
  refine mm_callS C (pc := 21) (d1 := 6) (As := [.int a2, .int (0 : Int32), .int ((v14 / (2 : Int32)) - (1 : Int32))]) (st := []) (vk := none) ((S_X11_needWithin (by omega)) e21) tT_X11_needWithin wd_1163 wd_1164 (by omega) (by decide) rfl (by simp [mm_crf, mm_cti, mm_ctl]) rfl dX11_crossed_21 ?_
  show V _ _ [] _
  refine mm_aload_n C (pc := 24) 1 dX11_crossed_24 rfl ?_
  replace hK := mm_bd hK; obtain ⟨v25, e25, hK⟩ := hK
  refine mm_getr C (pc := 25) (k := 12) inGX11 rfl (by decide) wd_857 dX11_crossed_25 e25 ?_
  refine mm_aload_n C (pc := 28) 1 dX11_crossed_28 rfl ?_
  replace hK := mm_bd hK; obtain ⟨v29, e29, hK⟩ := hK
  refine mm_getr C (pc := 29) (k := 5) inGX11 rfl (by decide) wd_850 dX11_crossed_29 e29 ?_
  refine mm_aload_n C (pc := 32) 0 dX11_crossed_32 rfl ?_
  replace hK := mm_bd hK; obtain ⟨h33, e33, hK⟩ := hK
  obtain ⟨o33, e33⟩ := cV_some e33
  refine mm_callV C (pc := 33) (d1 := 5) (As := [va_rf v29, va_rf v2]) (st := []) (vk := none) ((S_X2_seek (by omega)) e33) tT_X2_seek o33 (Or.inr ⟨_, rfl, rfl⟩) wd_1777 wd_1778 wd_1779 (by omega) (by decide) rfl (by simp [mm_crf, mm_cti, mm_ctl]) rfl dX11_crossed_33 ?_
  show V _ _ [] _
  refine mm_aload_n C (pc := 36) 1 dX11_crossed_36 rfl ?_
  replace hK := mm_bd hK; obtain ⟨v37, e37, hK⟩ := hK
  refine mm_getr C (pc := 37) (k := 12) inGX11 rfl (by decide) wd_857 dX11_crossed_37 e37 ?_
  refine mm_iload_n C (pc := 40) 3 dX11_crossed_40 rfl ?_
  replace hK := mm_b2s hK; obtain ⟨v41, h41, e41, hK⟩ := hK
  obtain ⟨o41, e41⟩ := cV_some e41
  refine mm_callV C (pc := 41) (d1 := 1) (As := [.int a2]) (st := []) (vk := (some (.int v41))) ((S_X2_firstOf (by omega)) e41) tT_X2_firstOf o41 (Or.inr ⟨_, rfl, rfl⟩) wd_1813 wd_1814 wd_1815 (by omega) (by decide) rfl (by simp [mm_crf, mm_cti, mm_ctl]) rfl dX11_crossed_41 ?_
  show V _ _ (.int v41 :: _) _
  cases hK
  exact mm_iret C (pc := 44) rfl dX11_crossed_44 rfl rfl
