/-! the makings, step by step: the reference -/
def sh12 : BS := [(219, 2, 120), (218, 1, 4), (217, 1, 4), (216, 1, 8), (215, 1, 64), (214, 1, 8), (213, 1, 8), (212, 1, 8), (211, 1, 64), (210, 1, 3), (209, 1, 3), (208, 1, 10), (207, 1, 40), (206, 1, 41), (205, 1, 10), (204, 1, 6), (203, 1, 64), (202, 1, 900), (201, 4, 3), (200, 1, 9615), (199, 1, 3205), (198, 1, 3205), (197, 21, 0)] ++ sh11
def ri12 : BI' := [(198, 1, 2), (217, 3, -1), (217, 2, -1), (217, 1, -1), (217, 0, -1), (205, 9, -1), (205, 8, -1), (205, 7, -1), (205, 6, -1), (205, 5, -1), (205, 4, -1), (205, 3, -1), (205, 2, -1), (205, 1, -1), (205, 0, -1), (197, 15, -1)] ++ ri11
def rr12 : BR := [(197, 47, some 219), (197, 46, some 218), (197, 45, some 217), (197, 44, some 216), (197, 42, some 215), (197, 37, some 214), (197, 36, some 213), (197, 35, some 212), (197, 34, some 211), (197, 32, some 210), (197, 31, some 209), (197, 26, some 208), (197, 24, some 207), (197, 23, some 206), (197, 21, some 205), (197, 20, some 204), (197, 19, some 203), (197, 5, some 202), (197, 3, some 201), (197, 2, some 200), (197, 1, some 199), (197, 0, some 198)] ++ rr11
theorem init12 {B0 : mkS × mkI × mkR} {S0 : mkS} {I0 : mkI} {L0 : mkL} {R0 : mkR} (b0 : Bd 198 ((197, 21, 0) :: sh11) ri11 rr11 B0 S0 I0 R0) : ∃ S I L R J, F_X12_init (some 197) (mk S0 I0 L0 R0 (198, 3096431)) = some (mk S J L R (220, 3113824)) ∧ Bd 220 sh12 ri12 rr12 B0 S I R ∧ (∀ x, x ≠ 198 → J x = I x) ∧ ∀ j, J 198 j = if 38 ≤ j ∧ j < 46 then -1 else I 198 j := by
  obtain ⟨S1, I1, L1, R1, e1, b1⟩ := st_I b0 (L := L0) (sl := 3096431) (z' := 199) (sl' := 3099636) (t := 0) (N := 3205) (x := 3205) rfl (by decide) (by decide) rfl rfl (by decide) (by decide)
  obtain ⟨R2, e2, b2⟩ := st_pR b1 (L := L1) (n := (199, 3099636)) (o := 197) (c := 12) (k := 0) (v := (some 198)) (by decide +kernel) rfl
  obtain ⟨S3, I3, L3, R3, e3, b3⟩ := st_I b2 (L := L1) (sl := 3099636) (z' := 200) (sl' := 3102841) (t := 0) (N := 3205) (x := 3205) rfl (by decide) (by decide) rfl rfl (by decide) (by decide)
  obtain ⟨R4, e4, b4⟩ := st_pR b3 (L := L3) (n := (200, 3102841)) (o := 197) (c := 12) (k := 1) (v := (some 199)) (by decide +kernel) rfl
  obtain ⟨S5, I5, L5, R5, e5, b5⟩ := st_I b4 (L := L3) (sl := 3102841) (z' := 201) (sl' := 3112456) (t := 0) (N := 9615) (x := 9615) rfl (by decide) (by decide) rfl rfl (by decide) (by decide)
  obtain ⟨R6, e6, b6⟩ := st_pR b5 (L := L5) (n := (201, 3112456)) (o := 197) (c := 12) (k := 2) (v := (some 200)) (by decide +kernel) rfl
  obtain ⟨S7, I7, L7, R7, e7, b7⟩ := st_I b6 (L := L5) (sl := 3112456) (z' := 202) (sl' := 3112459) (t := 3) (N := 3) (x := 3) rfl (by decide) (by decide) rfl rfl (by decide) (by decide)
  obtain ⟨R8, e8, b8⟩ := st_pR b7 (L := L7) (n := (202, 3112459)) (o := 197) (c := 12) (k := 3) (v := (some 201)) (by decide +kernel) rfl
  obtain ⟨S9, I9, L9, R9, e9, b9⟩ := st_I b8 (L := L7) (sl := 3112459) (z' := 203) (sl' := 3113359) (t := 0) (N := 900) (x := 900) rfl (by decide) (by decide) rfl rfl (by decide) (by decide)
  obtain ⟨R10, e10, b10⟩ := st_pR b9 (L := L9) (n := (203, 3113359)) (o := 197) (c := 12) (k := 5) (v := (some 202)) (by decide +kernel) rfl
  obtain ⟨I11, e11, b11⟩ := st_pI b10 (L := L9) (n := (203, 3113359)) (o := 197) (c := 12) (k := 15) (v := -1) (by decide +kernel) rfl
  obtain ⟨S12, I12, L12, R12, e12, b12⟩ := st_I b11 (L := L9) (sl := 3113359) (z' := 204) (sl' := 3113423) (t := 0) (N := 64) (x := 64) rfl (by decide) (by decide) rfl rfl (by decide) (by decide)
  obtain ⟨R13, e13, b13⟩ := st_pR b12 (L := L12) (n := (204, 3113423)) (o := 197) (c := 12) (k := 19) (v := (some 203)) (by decide +kernel) rfl
  obtain ⟨S14, I14, L14, R14, e14, b14⟩ := st_I b13 (L := L12) (sl := 3113423) (z' := 205) (sl' := 3113429) (t := 0) (N := 6) (x := 6) rfl (by decide) (by decide) rfl rfl (by decide) (by decide)
  obtain ⟨R15, e15, b15⟩ := st_pR b14 (L := L14) (n := (205, 3113429)) (o := 197) (c := 12) (k := 20) (v := (some 204)) (by decide +kernel) rfl
  obtain ⟨S16, I16, L16, R16, e16, b16⟩ := st_I b15 (L := L14) (sl := 3113429) (z' := 206) (sl' := 3113439) (t := 0) (N := 10) (x := 10) rfl (by decide) (by decide) rfl rfl (by decide) (by decide)
  obtain ⟨I17, e17, b17⟩ := st_sI b16 (L := L16) (n := (206, 3113439)) (o := 205) (N := 10) (k := 0) (i := 0) (v := -1) (by decide +kernel) rfl (by decide) (by decide)
  obtain ⟨I18, e18, b18⟩ := st_sI b17 (L := L16) (n := (206, 3113439)) (o := 205) (N := 10) (k := 1) (i := 1) (v := -1) (by decide +kernel) rfl (by decide) (by decide)
  obtain ⟨I19, e19, b19⟩ := st_sI b18 (L := L16) (n := (206, 3113439)) (o := 205) (N := 10) (k := 2) (i := 2) (v := -1) (by decide +kernel) rfl (by decide) (by decide)
  obtain ⟨I20, e20, b20⟩ := st_sI b19 (L := L16) (n := (206, 3113439)) (o := 205) (N := 10) (k := 3) (i := 3) (v := -1) (by decide +kernel) rfl (by decide) (by decide)
  obtain ⟨I21, e21, b21⟩ := st_sI b20 (L := L16) (n := (206, 3113439)) (o := 205) (N := 10) (k := 4) (i := 4) (v := -1) (by decide +kernel) rfl (by decide) (by decide)
  obtain ⟨I22, e22, b22⟩ := st_sI b21 (L := L16) (n := (206, 3113439)) (o := 205) (N := 10) (k := 5) (i := 5) (v := -1) (by decide +kernel) rfl (by decide) (by decide)
  obtain ⟨I23, e23, b23⟩ := st_sI b22 (L := L16) (n := (206, 3113439)) (o := 205) (N := 10) (k := 6) (i := 6) (v := -1) (by decide +kernel) rfl (by decide) (by decide)
  obtain ⟨I24, e24, b24⟩ := st_sI b23 (L := L16) (n := (206, 3113439)) (o := 205) (N := 10) (k := 7) (i := 7) (v := -1) (by decide +kernel) rfl (by decide) (by decide)
  obtain ⟨I25, e25, b25⟩ := st_sI b24 (L := L16) (n := (206, 3113439)) (o := 205) (N := 10) (k := 8) (i := 8) (v := -1) (by decide +kernel) rfl (by decide) (by decide)
  obtain ⟨I26, e26, b26⟩ := st_sI b25 (L := L16) (n := (206, 3113439)) (o := 205) (N := 10) (k := 9) (i := 9) (v := -1) (by decide +kernel) rfl (by decide) (by decide)
  obtain ⟨R27, e27, b27⟩ := st_pR b26 (L := L16) (n := (206, 3113439)) (o := 197) (c := 12) (k := 21) (v := (some 205)) (by decide +kernel) rfl
  obtain ⟨S28, I28, L28, R28, e28, b28⟩ := st_I b27 (L := L16) (sl := 3113439) (z' := 207) (sl' := 3113480) (t := 0) (N := 41) (x := 41) rfl (by decide) (by decide) rfl rfl (by decide) (by decide)
  obtain ⟨R29, e29, b29⟩ := st_pR b28 (L := L28) (n := (207, 3113480)) (o := 197) (c := 12) (k := 23) (v := (some 206)) (by decide +kernel) rfl
  obtain ⟨S30, I30, L30, R30, e30, b30⟩ := st_I b29 (L := L28) (sl := 3113480) (z' := 208) (sl' := 3113520) (t := 0) (N := 40) (x := 40) rfl (by decide) (by decide) rfl rfl (by decide) (by decide)
  obtain ⟨R31, e31, b31⟩ := st_pR b30 (L := L30) (n := (208, 3113520)) (o := 197) (c := 12) (k := 24) (v := (some 207)) (by decide +kernel) rfl
  obtain ⟨S32, I32, L32, R32, e32, b32⟩ := st_I b31 (L := L30) (sl := 3113520) (z' := 209) (sl' := 3113530) (t := 0) (N := 10) (x := 10) rfl (by decide) (by decide) rfl rfl (by decide) (by decide)
  obtain ⟨R33, e33, b33⟩ := st_pR b32 (L := L32) (n := (209, 3113530)) (o := 197) (c := 12) (k := 26) (v := (some 208)) (by decide +kernel) rfl
  obtain ⟨S34, I34, L34, R34, e34, b34⟩ := st_I b33 (L := L32) (sl := 3113530) (z' := 210) (sl' := 3113533) (t := 0) (N := 3) (x := 3) rfl (by decide) (by decide) rfl rfl (by decide) (by decide)
  obtain ⟨R35, e35, b35⟩ := st_pR b34 (L := L34) (n := (210, 3113533)) (o := 197) (c := 12) (k := 31) (v := (some 209)) (by decide +kernel) rfl
  obtain ⟨S36, I36, L36, R36, e36, b36⟩ := st_I b35 (L := L34) (sl := 3113533) (z' := 211) (sl' := 3113536) (t := 0) (N := 3) (x := 3) rfl (by decide) (by decide) rfl rfl (by decide) (by decide)
  obtain ⟨R37, e37, b37⟩ := st_pR b36 (L := L36) (n := (211, 3113536)) (o := 197) (c := 12) (k := 32) (v := (some 210)) (by decide +kernel) rfl
  obtain ⟨S38, I38, L38, R38, e38, b38⟩ := st_I b37 (L := L36) (sl := 3113536) (z' := 212) (sl' := 3113600) (t := 0) (N := 64) (x := 64) rfl (by decide) (by decide) rfl rfl (by decide) (by decide)
  obtain ⟨R39, e39, b39⟩ := st_pR b38 (L := L38) (n := (212, 3113600)) (o := 197) (c := 12) (k := 34) (v := (some 211)) (by decide +kernel) rfl
  obtain ⟨S40, I40, L40, R40, e40, b40⟩ := st_I b39 (L := L38) (sl := 3113600) (z' := 213) (sl' := 3113608) (t := 0) (N := 8) (x := 8) rfl (by decide) (by decide) rfl rfl (by decide) (by decide)
  obtain ⟨R41, e41, b41⟩ := st_pR b40 (L := L40) (n := (213, 3113608)) (o := 197) (c := 12) (k := 35) (v := (some 212)) (by decide +kernel) rfl
  obtain ⟨S42, I42, L42, R42, e42, b42⟩ := st_I b41 (L := L40) (sl := 3113608) (z' := 214) (sl' := 3113616) (t := 0) (N := 8) (x := 8) rfl (by decide) (by decide) rfl rfl (by decide) (by decide)
  obtain ⟨R43, e43, b43⟩ := st_pR b42 (L := L42) (n := (214, 3113616)) (o := 197) (c := 12) (k := 36) (v := (some 213)) (by decide +kernel) rfl
  obtain ⟨S44, I44, L44, R44, e44, b44⟩ := st_I b43 (L := L42) (sl := 3113616) (z' := 215) (sl' := 3113624) (t := 0) (N := 8) (x := 8) rfl (by decide) (by decide) rfl rfl (by decide) (by decide)
  obtain ⟨R45, e45, b45⟩ := st_pR b44 (L := L44) (n := (215, 3113624)) (o := 197) (c := 12) (k := 37) (v := (some 214)) (by decide +kernel) rfl
  obtain ⟨S46, I46, L46, R46, e46, b46⟩ := st_I b45 (L := L44) (sl := 3113624) (z' := 216) (sl' := 3113688) (t := 0) (N := 64) (x := 64) rfl (by decide) (by decide) rfl rfl (by decide) (by decide)
  obtain ⟨R47, e47, b47⟩ := st_pR b46 (L := L46) (n := (216, 3113688)) (o := 197) (c := 12) (k := 42) (v := (some 215)) (by decide +kernel) rfl
  obtain ⟨S48, I48, L48, R48, e48, b48⟩ := st_I b47 (L := L46) (sl := 3113688) (z' := 217) (sl' := 3113696) (t := 0) (N := 8) (x := 8) rfl (by decide) (by decide) rfl rfl (by decide) (by decide)
  obtain ⟨R49, e49, b49⟩ := st_pR b48 (L := L48) (n := (217, 3113696)) (o := 197) (c := 12) (k := 44) (v := (some 216)) (by decide +kernel) rfl
  obtain ⟨S50, I50, L50, R50, e50, b50⟩ := st_I b49 (L := L48) (sl := 3113696) (z' := 218) (sl' := 3113700) (t := 0) (N := 4) (x := 4) rfl (by decide) (by decide) rfl rfl (by decide) (by decide)
  obtain ⟨I51, e51, b51⟩ := st_sI b50 (L := L50) (n := (218, 3113700)) (o := 217) (N := 4) (k := 0) (i := 0) (v := -1) (by decide +kernel) rfl (by decide) (by decide)
  obtain ⟨I52, e52, b52⟩ := st_sI b51 (L := L50) (n := (218, 3113700)) (o := 217) (N := 4) (k := 1) (i := 1) (v := -1) (by decide +kernel) rfl (by decide) (by decide)
  obtain ⟨I53, e53, b53⟩ := st_sI b52 (L := L50) (n := (218, 3113700)) (o := 217) (N := 4) (k := 2) (i := 2) (v := -1) (by decide +kernel) rfl (by decide) (by decide)
  obtain ⟨I54, e54, b54⟩ := st_sI b53 (L := L50) (n := (218, 3113700)) (o := 217) (N := 4) (k := 3) (i := 3) (v := -1) (by decide +kernel) rfl (by decide) (by decide)
  obtain ⟨R55, e55, b55⟩ := st_pR b54 (L := L50) (n := (218, 3113700)) (o := 197) (c := 12) (k := 45) (v := (some 217)) (by decide +kernel) rfl
  obtain ⟨S56, I56, L56, R56, e56, b56⟩ := st_I b55 (L := L50) (sl := 3113700) (z' := 219) (sl' := 3113704) (t := 0) (N := 4) (x := 4) rfl (by decide) (by decide) rfl rfl (by decide) (by decide)
  obtain ⟨R57, e57, b57⟩ := st_pR b56 (L := L56) (n := (219, 3113704)) (o := 197) (c := 12) (k := 46) (v := (some 218)) (by decide +kernel) rfl
  obtain ⟨S58, I58, L58, R58, e58, b58⟩ := st_L b57 (L := L56) (sl := 3113704) (z' := 220) (sl' := 3113824) (N := 120) (x := 120) rfl (by decide) rfl rfl (by decide) (by decide)
  obtain ⟨R59, e59, b59⟩ := st_pR b58 (L := L58) (n := (220, 3113824)) (o := 197) (c := 12) (k := 47) (v := (some 219)) (by decide +kernel) rfl
  obtain ⟨I60, e60, b60⟩ := st_sI b59 (L := L58) (n := (220, 3113824)) (o := 198) (N := 3205) (k := 1) (i := 1) (v := 2) (by decide +kernel) rfl (by decide) (by decide)
  obtain ⟨IW, eW, kW, wW⟩ := st_wed b60 (L := L58) (n := (220, 3113824)) (o := 197) (ca := 198) (by decide +kernel) (by decide +kernel) (by decide +kernel)
  refine ⟨_, _, L58, _, IW, ?_, b60, kW, wW⟩
  unfold F_X12_init
  rw [Option.bind_some, e1, b2_some, e2, Option.bind_some, e3, b2_some, e4, Option.bind_some, e5, b2_some, e6]
  rw [Option.bind_some, e7, b2_some, e8, Option.bind_some, e9, b2_some, e10, Option.bind_some, e11, Option.bind_some, e12]
  rw [b2_some, e13, Option.bind_some, e14, b2_some, e15, Option.bind_some, e16, b2_some, e17, Option.bind_some, e18]
  rw [Option.bind_some, e19, Option.bind_some, e20, Option.bind_some, e21, Option.bind_some, e22, Option.bind_some, e23, Option.bind_some, e24]
  rw [Option.bind_some, e25, Option.bind_some, e26, Option.bind_some, e27, Option.bind_some, e28, b2_some, e29, Option.bind_some, e30]
  rw [b2_some, e31, Option.bind_some, e32, b2_some, e33, Option.bind_some, e34, b2_some, e35, Option.bind_some, e36]
  rw [b2_some, e37, Option.bind_some, e38, b2_some, e39, Option.bind_some, e40, b2_some, e41, Option.bind_some, e42]
  rw [b2_some, e43, Option.bind_some, e44, b2_some, e45, Option.bind_some, e46, b2_some, e47, Option.bind_some, e48]
  rw [b2_some, e49, Option.bind_some, e50, b2_some, e51, Option.bind_some, e52, Option.bind_some, e53, Option.bind_some, e54]
  rw [Option.bind_some, e55, Option.bind_some, e56, b2_some, e57, Option.bind_some, e58, b2_some, e59, Option.bind_some, st_gR b59 (o := 197) (c := 12) (k := 0) (v := some 198) (by decide +kernel) rfl (by decide +kernel)]
  rw [Option.bind_some, e60, Option.bind_some, eW]
