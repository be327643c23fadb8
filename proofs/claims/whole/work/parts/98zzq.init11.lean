/-! the makings, step by step: the class -/
theorem i62_step {n : Nat} {l0} {l1} {l2} {h} : F_X8_init_62 (n + 1) l0 l1 l2 h = ((gI h l0 8 1).bind fun v64 => if v64 ≤ l2 then (mm_b2 (cV h l1 7 (F_X7_lawOf l1 (0 : Int32) h)) fun v90 h90 => (pR h90 l0 8 5 v90).bind fun h93 => mm_b2 (cV h93 l1 7 (F_X7_lawOf l1 (2 : Int32) h93)) fun v99 h99 => (pR h99 l0 8 6 v99).bind fun h102 => mm_b2 (cV h102 l1 7 (F_X7_lawOf l1 (1 : Int32) h102)) fun v107 h107 => F_X8_init_113 mm_N l0 v107 (0 : Int32) h107) else ((gR h l0 8 3).bind fun v71 => mm_b2 (cV h l1 7 (F_X7_reachOf l1 l2 h)) fun v77 h77 => (sI h77 v71 0 l2 v77).bind fun h80 => F_X8_init_62 n l0 l1 (l2 + (1 : Int32)) h80)) := rfl
theorem i113_step {n : Nat} {l0} {l2} {l3} {h} : F_X8_init_113 (n + 1) l0 l2 l3 h = (if l2 = none then (F_X8_init_174 h) else ((gI h l0 8 0).bind fun v119 => if v119 ≤ l3 then (F_X8_init_174 h) else (F_X8_init_128 (F_X8_init_113 n) mm_N l0 l2 l3 (0 : Int32) h))) := rfl
theorem tray_step {n : Nat} {l0} {l1} {h} : F_X11_init_176 (n + 1) l0 l1 h = (if (4 : Int32) ≤ l1 then (some h) else ((gR h l0 11 10).bind fun v182 => mm_b2 (nO h 10 [.null, .int 0, .int 0] 3) fun v186 h186 => v186.bind fun b190 => (F_X10_init (some b190) h186).bind fun h190 => (sR h190 v182 4 10 l1 (some b190)).bind fun h193 => F_X11_init_176 n l0 (l1 + (1 : Int32)) h193)) := rfl
theorem x0_eq {a0 : Option Nat} {a1 : Option Nat} {h : MH} : F_X0_init a0 a1 h = (a0.bind fun b1 => mm_b2 (nI_ h 0 (81 : Int32)) fun v7 h7 => (pR h7 (some b1) 0 0 v7).bind fun h9 => mm_b2 (nO h9 1 [.null, .int 0, .null, .null, .null, .null] 6) fun v13 h13 => v13.bind fun b17 => (F_X1_init (some b17) h13).bind fun h17 => (pR h17 (some b1) 0 1 (some b17)).bind fun h20 => (pR h20 (some b1) 0 2 a1).bind fun h25 => (cV h25 (some b1) 0 (F_X0_clear (some b1) h25)).bind fun h29 => some h29) := rfl
theorem x1_eq {a0 : Option Nat} {h : MH} : F_X1_init a0 h = (a0.bind fun b1 => mm_b2 (nI_ h 0 (10 : Int32)) fun v7 h7 => (pR h7 (some b1) 1 0 v7).bind fun h9 => (pI h9 (some b1) 1 1 (0 : Int32)).bind fun h14 => mm_b2 (nI_ h14 0 (8 : Int32)) fun v20 h20 => (pR h20 (some b1) 1 2 v20).bind fun h22 => mm_b2 (nI_ h22 0 (3 : Int32)) fun v27 h27 => (pR h27 (some b1) 1 3 v27).bind fun h29 => mm_b2 (nI_ h29 0 (8 : Int32)) fun v35 h35 => (pR h35 (some b1) 1 4 v35).bind fun h37 => mm_b2 (nI_ h37 0 (3 : Int32)) fun v42 h42 => (pR h42 (some b1) 1 5 v42).bind fun h44 => some h44) := rfl
theorem x2_eq {a0 : Option Nat} {h : MH} : F_X2_init a0 h = (a0.bind fun b1 => mm_b2 (nO h 1 [.null, .int 0, .null, .null, .null, .null] 6) fun v5 h5 => v5.bind fun b9 => (F_X1_init (some b9) h5).bind fun h9 => (pR h9 (some b1) 2 0 (some b9)).bind fun h12 => mm_b2 (nI_ h12 0 (10 : Int32)) fun v18 h18 => (pR h18 (some b1) 2 1 v18).bind fun h20 => mm_b2 (nI_ h20 0 (10 : Int32)) fun v26 h26 => (pR h26 (some b1) 2 2 v26).bind fun h28 => mm_b2 (nI_ h28 0 (3 : Int32)) fun v33 h33 => (pR h33 (some b1) 2 3 v33).bind fun h35 => mm_b2 (nI_ h35 0 (3 : Int32)) fun v40 h40 => (pR h40 (some b1) 2 4 v40).bind fun h42 => (pI h42 (some b1) 2 5 (0 : Int32)).bind fun h47 => some h47) := rfl
theorem x3_eq {a0 : Option Nat} {h : MH} : F_X3_init a0 h = (a0.bind fun b1 => mm_b2 (nI_ h 0 (810 : Int32)) fun v8 h8 => (pR h8 (some b1) 3 0 v8).bind fun h10 => (pI h10 (some b1) 3 1 (0 : Int32)).bind fun h15 => (pI h15 (some b1) 3 2 (0 : Int32)).bind fun h20 => some h20) := rfl
theorem x4_eq {a0 : Option Nat} {h : MH} : F_X4_init a0 h = (a0.bind fun b1 => mm_b2 (nO h 1 [.null, .int 0, .null, .null, .null, .null] 6) fun v5 h5 => v5.bind fun b9 => (F_X1_init (some b9) h5).bind fun h9 => (pR h9 (some b1) 4 0 (some b9)).bind fun h12 => mm_b2 (nI_ h12 0 (3 : Int32)) fun v17 h17 => (pR h17 (some b1) 4 1 v17).bind fun h19 => mm_b2 (nI_ h19 0 (3 : Int32)) fun v24 h24 => (pR h24 (some b1) 4 2 v24).bind fun h26 => mm_b2 (nI_ h26 0 (10 : Int32)) fun v32 h32 => (pR h32 (some b1) 4 3 v32).bind fun h34 => mm_b2 (nI_ h34 0 (10 : Int32)) fun v40 h40 => (pR h40 (some b1) 4 4 v40).bind fun h42 => (pI h42 (some b1) 4 5 (0 : Int32)).bind fun h47 => (pI h47 (some b1) 4 6 (0 : Int32)).bind fun h52 => (pI h52 (some b1) 4 7 (0 : Int32)).bind fun h57 => some h57) := rfl
theorem x6_eq {a0 : Option Nat} {h : MH} : F_X6_init a0 h = (a0.bind fun b1 => mm_b2 (nI_ h 0 (8 : Int32)) fun v7 h7 => (pR h7 (some b1) 6 0 v7).bind fun h9 => mm_b2 (nI_ h9 0 (8 : Int32)) fun v15 h15 => (pR h15 (some b1) 6 1 v15).bind fun h17 => mm_b2 (nI_ h17 0 (8 : Int32)) fun v23 h23 => (pR h23 (some b1) 6 2 v23).bind fun h25 => (pR h25 (some b1) 6 3 (none : Option Nat)).bind fun h30 => (pZ h30 (some b1) 6 4 (0 : Int32)).bind fun h35 => (pI h35 (some b1) 6 5 (0 : Int32)).bind fun h40 => (pZ h40 (some b1) 6 6 (0 : Int32)).bind fun h45 => (pI h45 (some b1) 6 7 (0 : Int32)).bind fun h50 => some h50) := rfl
theorem x7_eq {a0 : Option Nat} {a1 : Option Nat} {h : MH} : F_X7_init a0 a1 h = (a0.bind fun b1 => mm_b2 (nI_ h 0 (3 : Int32)) fun v6 h6 => (pR h6 (some b1) 7 1 v6).bind fun h8 => mm_b2 (nI_ h8 0 (40 : Int32)) fun v14 h14 => (pR h14 (some b1) 7 2 v14).bind fun h16 => mm_b2 (nI_ h16 0 (900 : Int32)) fun v23 h23 => (pR h23 (some b1) 7 3 v23).bind fun h25 => mm_b2 (nI_ h25 0 (3 : Int32)) fun v30 h30 => (pR h30 (some b1) 7 4 v30).bind fun h32 => mm_b2 (nI_ h32 0 (3 : Int32)) fun v37 h37 => (pR h37 (some b1) 7 5 v37).bind fun h39 => (pI h39 (some b1) 7 6 (2 : Int32)).bind fun h44 => (pI h44 (some b1) 7 7 (0 : Int32)).bind fun h49 => (pI h49 (some b1) 7 8 (0 : Int32)).bind fun h54 => (pI h54 (some b1) 7 9 (0 : Int32)).bind fun h59 => (pI h59 (some b1) 7 10 (0 : Int32)).bind fun h64 => (pI h64 (some b1) 7 11 (0 : Int32)).bind fun h69 => (pI h69 (some b1) 7 12 (0 : Int32)).bind fun h74 => (pI h74 (some b1) 7 13 (0 : Int32)).bind fun h79 => (pI h79 (some b1) 7 14 ((-1) : Int32)).bind fun h84 => (pR h84 (some b1) 7 0 a1).bind fun h89 => some h89) := rfl
theorem x8_eq {a0 : Option Nat} {a1 : Option Nat} {h : MH} : F_X8_init a0 a1 h = (a0.bind fun b1 => mm_b2 (nI_ h 0 (3 : Int32)) fun v6 h6 => (pR h6 (some b1) 8 3 v6).bind fun h8 => mm_b2 (nI_ h8 0 (64 : Int32)) fun v14 h14 => (pR h14 (some b1) 8 4 v14).bind fun h16 => mm_b2 (cV h16 a1 7 (F_X7_lines a1 h16)) fun v24 h24 => (pI h24 (some b1) 8 0 (mxI (2 : Int32) (mnI (8 : Int32) v24))).bind fun h33 => mm_b2 (cV h33 a1 7 (F_X7_cords a1 h33)) fun v40 h40 => (pI h40 (some b1) 8 1 (mxI (0 : Int32) (mnI (3 : Int32) v40))).bind fun h49 => mm_b2 (cV h49 a1 7 (F_X7_textLines a1 h49)) fun v54 h54 => (pI h54 (some b1) 8 2 v54).bind fun h57 => F_X8_init_62 mm_N (some b1) a1 (0 : Int32) h57) := rfl
theorem x9_eq {a0 : Option Nat} {a1 : Option Nat} {h : MH} : F_X9_init a0 a1 h = (a0.bind fun b1 => (pI h (some b1) 9 1 (0 : Int32)).bind fun h6 => (pI h6 (some b1) 9 2 (0 : Int32)).bind fun h11 => (pI h11 (some b1) 9 3 (0 : Int32)).bind fun h16 => (pI h16 (some b1) 9 4 (0 : Int32)).bind fun h21 => (pI h21 (some b1) 9 5 (0 : Int32)).bind fun h26 => (pR h26 (some b1) 9 0 a1).bind fun h31 => some h31) := rfl
theorem x10_eq {a0 : Option Nat} {h : MH} : F_X10_init a0 h = (a0.bind fun b1 => mm_b2 (nL_ h (30 : Int32)) fun v7 h7 => (pR h7 (some b1) 10 0 v7).bind fun h9 => (pI h9 (some b1) 10 1 (0 : Int32)).bind fun h14 => (pI h14 (some b1) 10 2 ((-1) : Int32)).bind fun h19 => some h19) := rfl
theorem i174 (h : MH) : F_X8_init_174 h = some h := rfl
section IN
variable {z : Nat} {s : BS} {ri : BI'} {rr : BR} {B0 : mkS × mkI × mkR} {S : mkS} {I : mkI} {L : mkL} {R : mkR} {n : Nat × Nat}
theorem st_lines (b : Bd z s ri rr B0 S I R) {v : Int32} (h : (163, 16, 0) ∈ s) (hv : lkI ri 163 6 = v) : F_X7_lines (some 163) (mk S I L R n) = some (v, mk S I L R n) := by
  unfold F_X7_lines; rw [st_gI b (o := 163) (c := 7) (k := 6) h rfl hv, Option.bind_some]
theorem st_cords (b : Bd z s ri rr B0 S I R) {v : Int32} (h : (163, 16, 0) ∈ s) (hv : lkI ri 163 7 = v) : F_X7_cords (some 163) (mk S I L R n) = some (v, mk S I L R n) := by
  unfold F_X7_cords; rw [st_gI b (o := 163) (c := 7) (k := 7) h rfl hv, Option.bind_some]
theorem st_textLines (b : Bd z s ri rr B0 S I R) {v : Int32} (h : (163, 16, 0) ∈ s) (hv : lkI ri 163 10 = v) : F_X7_textLines (some 163) (mk S I L R n) = some (v, mk S I L R n) := by
  unfold F_X7_textLines; rw [st_gI b (o := 163) (c := 7) (k := 10) h rfl hv, Option.bind_some]
theorem lawOf0 (b : Bd z s ri rr B0 S I R) {w : Nat} {i : Int32} (hi : i = nI w) (hw : w < 3) (h1 : (163, 16, 0) ∈ s) (h2 : (168, 1, 3) ∈ s) (h3 : (169, 1, 3) ∈ s) (h4 : lkR rr 163 4 = some 168) (h5 : lkR rr 163 5 = some 169) (h6 : lkI ri 168 w = 0) (h7 : lkI ri 169 w = 0) : F_X7_lawOf (some 163) i (mk S I L R n) = some (none, mk S I L R n) := by
  unfold F_X7_lawOf F_X7_lawOf_41
  rw [if_neg (by rw [hi]; exact nI_pos (by omega)), if_pos (show i < 3 by rw [hi]; exact nI_lt (b := 3) hw (by omega)), st_gR b (o := 163) (c := 7) h1 rfl h4, Option.bind_some, st_aI b (o := 168) h2 hi hw (by decide) h6, Option.bind_some, st_gR b (o := 163) (c := 7) h1 rfl h5, Option.bind_some, st_aI b (o := 169) h3 hi hw (by decide) h7, Option.bind_some, if_neg (by decide), if_pos (by decide)]
end IN
def sh11 : BS := [(196, 2, 30), (195, 19, 0), (194, 2, 30), (193, 19, 0), (192, 2, 30), (191, 19, 0), (190, 2, 30), (189, 19, 0), (188, 1, 3), (187, 1, 8), (186, 1, 3), (185, 1, 8), (184, 1, 10), (183, 10, 0), (182, 1, 81), (181, 9, 0), (180, 1, 3), (179, 1, 8), (178, 1, 3), (177, 1, 8), (176, 1, 10), (175, 10, 0), (174, 1, 81), (173, 1, 64), (172, 1, 3), (171, 17, 0), (170, 9, 0), (169, 1, 3), (168, 1, 3), (167, 1, 900), (166, 1, 40), (165, 1, 3), (164, 18, 0), (163, 16, 0), (162, 1, 8), (161, 1, 8), (160, 1, 8), (159, 1, 8), (158, 1, 8), (157, 15, 0), (156, 1, 3), (155, 1, 3), (154, 1, 10), (153, 1, 10), (152, 1, 3), (151, 1, 8), (150, 1, 3), (149, 1, 8), (148, 1, 10), (147, 10, 0), (146, 11, 0), (145, 1, 10), (144, 1, 10), (143, 1, 3), (142, 1, 3), (141, 1, 3), (140, 1, 8), (139, 1, 3), (138, 1, 8), (137, 1, 10), (136, 10, 0), (135, 13, 0), (134, 5, 4), (133, 7, 3), (132, 6, 3), (131, 1, 810), (130, 12, 0), (129, 3, 900), (128, 20, 0)]
def ri11 : BI' := [(195, 2, -1), (195, 1, 0), (193, 2, -1), (193, 1, 0), (191, 2, -1), (191, 1, 0), (189, 2, -1), (189, 1, 0), (182, 3, -1), (182, 4, -1), (182, 5, -1), (182, 6, -1), (182, 7, -1), (182, 8, -1), (182, 9, -1), (182, 10, -1), (183, 1, 0), (174, 3, -1), (174, 4, -1), (174, 5, -1), (174, 6, -1), (174, 7, -1), (174, 8, -1), (174, 9, -1), (174, 10, -1), (175, 1, 0), (171, 2, 0), (171, 1, 0), (171, 0, 2), (163, 14, -1), (163, 13, 0), (163, 12, 0), (163, 11, 0), (163, 10, 0), (163, 9, 0), (163, 8, 0), (163, 7, 0), (163, 6, 2), (164, 5, 0), (164, 4, 0), (164, 3, 0), (164, 2, 0), (164, 1, 0), (157, 7, 0), (157, 6, 0), (157, 5, 0), (157, 4, 0), (146, 5, 0), (147, 1, 0), (135, 7, 0), (135, 6, 0), (135, 5, 0), (136, 1, 0), (130, 2, 0), (130, 1, 0), (128, 4, -1), (128, 3, 0), (128, 1, 0)]
def rr11 : BR := [(134, 3, some 195), (195, 0, some 196), (134, 2, some 193), (193, 0, some 194), (134, 1, some 191), (191, 0, some 192), (134, 0, some 189), (189, 0, some 190), (128, 7, some 181), (181, 2, some 171), (181, 1, some 183), (183, 5, some 188), (183, 4, some 187), (183, 3, some 186), (183, 2, some 185), (183, 0, some 184), (181, 0, some 182), (128, 5, some 170), (170, 2, some 171), (170, 1, some 175), (175, 5, some 180), (175, 4, some 179), (175, 3, some 178), (175, 2, some 177), (175, 0, some 176), (170, 0, some 174), (171, 6, none), (171, 5, none), (171, 4, some 173), (171, 3, some 172), (128, 2, some 163), (163, 0, some 164), (163, 5, some 169), (163, 4, some 168), (163, 3, some 167), (163, 2, some 166), (163, 1, some 165), (164, 0, some 129), (128, 15, some 162), (128, 14, some 161), (128, 13, some 157), (157, 3, none), (157, 2, some 160), (157, 1, some 159), (157, 0, some 158), (128, 12, some 146), (146, 4, some 156), (146, 3, some 155), (146, 2, some 154), (146, 1, some 153), (146, 0, some 147), (147, 5, some 152), (147, 4, some 151), (147, 3, some 150), (147, 2, some 149), (147, 0, some 148), (128, 11, some 135), (135, 4, some 145), (135, 3, some 144), (135, 2, some 143), (135, 1, some 142), (135, 0, some 136), (136, 5, some 141), (136, 4, some 140), (136, 3, some 139), (136, 2, some 138), (136, 0, some 137), (128, 10, some 134), (128, 9, some 133), (128, 8, some 132), (128, 6, some 130), (130, 0, some 131), (128, 0, some 129)]
theorem init11 {B0 : mkS × mkI × mkR} {S0 : mkS} {I0 : mkI} {L0 : mkL} {R0 : mkR} (b0 : Bd 129 [(128, 20, 0)] [] [] B0 S0 I0 R0) : ∃ S I L R, F_X11_init (some 128) (mk S0 I0 L0 R0 (129, 3093050)) = some (mk S I L R (197, 3096383)) ∧ Bd 197 sh11 ri11 rr11 B0 S I R := by
  obtain ⟨S1, I1, L1, R1, e1, b1⟩ := st_I b0 (L := L0) (sl := 3093050) (z' := 130) (sl' := 3093950) (t := 2) (N := 900) (x := 900) rfl (by decide) (by decide) rfl rfl (by decide) (by decide)
  obtain ⟨R2, e2, b2⟩ := st_pR b1 (L := L1) (n := (130, 3093950)) (o := 128) (c := 11) (k := 0) (v := (some 129)) (by decide +kernel) rfl
  obtain ⟨I3, e3, b3⟩ := st_pI b2 (L := L1) (n := (130, 3093950)) (o := 128) (c := 11) (k := 1) (v := 0) (by decide +kernel) rfl
  obtain ⟨I4, e4, b4⟩ := st_pI b3 (L := L1) (n := (130, 3093950)) (o := 128) (c := 11) (k := 3) (v := 0) (by decide +kernel) rfl
  obtain ⟨I5, e5, b5⟩ := st_pI b4 (L := L1) (n := (130, 3093950)) (o := 128) (c := 11) (k := 4) (v := -1) (by decide +kernel) rfl
  obtain ⟨S6, I6, L6, R6, e6, b6⟩ := st_O b5 (L := L1) (sl := 3093950) (z' := 131) (sl' := 3093953) (c := 3) (M := 3) (fs := [.null, .int 0, .int 0]) rfl rfl rfl (by decide) (by decide)
  obtain ⟨S7, I7, L7, R7, e7, b7⟩ := st_I b6 (L := L6) (sl := 3093953) (z' := 132) (sl' := 3094763) (t := 0) (N := 810) (x := 810) rfl (by decide) (by decide) rfl rfl (by decide) (by decide)
  obtain ⟨R8, e8, b8⟩ := st_pR b7 (L := L7) (n := (132, 3094763)) (o := 130) (c := 3) (k := 0) (v := (some 131)) (by decide +kernel) rfl
  obtain ⟨I9, e9, b9⟩ := st_pI b8 (L := L7) (n := (132, 3094763)) (o := 130) (c := 3) (k := 1) (v := 0) (by decide +kernel) rfl
  obtain ⟨I10, e10, b10⟩ := st_pI b9 (L := L7) (n := (132, 3094763)) (o := 130) (c := 3) (k := 2) (v := 0) (by decide +kernel) rfl
  obtain ⟨R11, e11, b11⟩ := st_pR b10 (L := L7) (n := (132, 3094763)) (o := 128) (c := 11) (k := 6) (v := (some 130)) (by decide +kernel) rfl
  obtain ⟨S12, I12, L12, R12, e12, b12⟩ := st_R b11 (L := L7) (sl := 3094763) (z' := 133) (sl' := 3094766) (t := 5) (N := 3) (x := 3) rfl (by decide) (by decide) rfl rfl (by decide) (by decide)
  obtain ⟨R13, e13, b13⟩ := st_pR b12 (L := L12) (n := (133, 3094766)) (o := 128) (c := 11) (k := 8) (v := (some 132)) (by decide +kernel) rfl
  obtain ⟨S14, I14, L14, R14, e14, b14⟩ := st_R b13 (L := L12) (sl := 3094766) (z' := 134) (sl' := 3094769) (t := 6) (N := 3) (x := 3) rfl (by decide) (by decide) rfl rfl (by decide) (by decide)
  obtain ⟨R15, e15, b15⟩ := st_pR b14 (L := L14) (n := (134, 3094769)) (o := 128) (c := 11) (k := 9) (v := (some 133)) (by decide +kernel) rfl
  obtain ⟨S16, I16, L16, R16, e16, b16⟩ := st_R b15 (L := L14) (sl := 3094769) (z' := 135) (sl' := 3094773) (t := 4) (N := 4) (x := 4) rfl (by decide) (by decide) rfl rfl (by decide) (by decide)
  obtain ⟨R17, e17, b17⟩ := st_pR b16 (L := L16) (n := (135, 3094773)) (o := 128) (c := 11) (k := 10) (v := (some 134)) (by decide +kernel) rfl
  obtain ⟨S18, I18, L18, R18, e18, b18⟩ := st_O b17 (L := L16) (sl := 3094773) (z' := 136) (sl' := 3094781) (c := 4) (M := 8) (fs := [.null, .null, .null, .null, .null, .int 0, .int 0, .int 0]) rfl rfl rfl (by decide) (by decide)
  obtain ⟨S19, I19, L19, R19, e19, b19⟩ := st_O b18 (L := L18) (sl := 3094781) (z' := 137) (sl' := 3094787) (c := 1) (M := 6) (fs := [.null, .int 0, .null, .null, .null, .null]) rfl rfl rfl (by decide) (by decide)
  obtain ⟨S20, I20, L20, R20, e20, b20⟩ := st_I b19 (L := L19) (sl := 3094787) (z' := 138) (sl' := 3094797) (t := 0) (N := 10) (x := 10) rfl (by decide) (by decide) rfl rfl (by decide) (by decide)
  obtain ⟨R21, e21, b21⟩ := st_pR b20 (L := L20) (n := (138, 3094797)) (o := 136) (c := 1) (k := 0) (v := (some 137)) (by decide +kernel) rfl
  obtain ⟨I22, e22, b22⟩ := st_pI b21 (L := L20) (n := (138, 3094797)) (o := 136) (c := 1) (k := 1) (v := 0) (by decide +kernel) rfl
  obtain ⟨S23, I23, L23, R23, e23, b23⟩ := st_I b22 (L := L20) (sl := 3094797) (z' := 139) (sl' := 3094805) (t := 0) (N := 8) (x := 8) rfl (by decide) (by decide) rfl rfl (by decide) (by decide)
  obtain ⟨R24, e24, b24⟩ := st_pR b23 (L := L23) (n := (139, 3094805)) (o := 136) (c := 1) (k := 2) (v := (some 138)) (by decide +kernel) rfl
  obtain ⟨S25, I25, L25, R25, e25, b25⟩ := st_I b24 (L := L23) (sl := 3094805) (z' := 140) (sl' := 3094808) (t := 0) (N := 3) (x := 3) rfl (by decide) (by decide) rfl rfl (by decide) (by decide)
  obtain ⟨R26, e26, b26⟩ := st_pR b25 (L := L25) (n := (140, 3094808)) (o := 136) (c := 1) (k := 3) (v := (some 139)) (by decide +kernel) rfl
  obtain ⟨S27, I27, L27, R27, e27, b27⟩ := st_I b26 (L := L25) (sl := 3094808) (z' := 141) (sl' := 3094816) (t := 0) (N := 8) (x := 8) rfl (by decide) (by decide) rfl rfl (by decide) (by decide)
  obtain ⟨R28, e28, b28⟩ := st_pR b27 (L := L27) (n := (141, 3094816)) (o := 136) (c := 1) (k := 4) (v := (some 140)) (by decide +kernel) rfl
  obtain ⟨S29, I29, L29, R29, e29, b29⟩ := st_I b28 (L := L27) (sl := 3094816) (z' := 142) (sl' := 3094819) (t := 0) (N := 3) (x := 3) rfl (by decide) (by decide) rfl rfl (by decide) (by decide)
  obtain ⟨R30, e30, b30⟩ := st_pR b29 (L := L29) (n := (142, 3094819)) (o := 136) (c := 1) (k := 5) (v := (some 141)) (by decide +kernel) rfl
  obtain ⟨R31, e31, b31⟩ := st_pR b30 (L := L29) (n := (142, 3094819)) (o := 135) (c := 4) (k := 0) (v := (some 136)) (by decide +kernel) rfl
  obtain ⟨S32, I32, L32, R32, e32, b32⟩ := st_I b31 (L := L29) (sl := 3094819) (z' := 143) (sl' := 3094822) (t := 0) (N := 3) (x := 3) rfl (by decide) (by decide) rfl rfl (by decide) (by decide)
  obtain ⟨R33, e33, b33⟩ := st_pR b32 (L := L32) (n := (143, 3094822)) (o := 135) (c := 4) (k := 1) (v := (some 142)) (by decide +kernel) rfl
  obtain ⟨S34, I34, L34, R34, e34, b34⟩ := st_I b33 (L := L32) (sl := 3094822) (z' := 144) (sl' := 3094825) (t := 0) (N := 3) (x := 3) rfl (by decide) (by decide) rfl rfl (by decide) (by decide)
  obtain ⟨R35, e35, b35⟩ := st_pR b34 (L := L34) (n := (144, 3094825)) (o := 135) (c := 4) (k := 2) (v := (some 143)) (by decide +kernel) rfl
  obtain ⟨S36, I36, L36, R36, e36, b36⟩ := st_I b35 (L := L34) (sl := 3094825) (z' := 145) (sl' := 3094835) (t := 0) (N := 10) (x := 10) rfl (by decide) (by decide) rfl rfl (by decide) (by decide)
  obtain ⟨R37, e37, b37⟩ := st_pR b36 (L := L36) (n := (145, 3094835)) (o := 135) (c := 4) (k := 3) (v := (some 144)) (by decide +kernel) rfl
  obtain ⟨S38, I38, L38, R38, e38, b38⟩ := st_I b37 (L := L36) (sl := 3094835) (z' := 146) (sl' := 3094845) (t := 0) (N := 10) (x := 10) rfl (by decide) (by decide) rfl rfl (by decide) (by decide)
  obtain ⟨R39, e39, b39⟩ := st_pR b38 (L := L38) (n := (146, 3094845)) (o := 135) (c := 4) (k := 4) (v := (some 145)) (by decide +kernel) rfl
  obtain ⟨I40, e40, b40⟩ := st_pI b39 (L := L38) (n := (146, 3094845)) (o := 135) (c := 4) (k := 5) (v := 0) (by decide +kernel) rfl
  obtain ⟨I41, e41, b41⟩ := st_pI b40 (L := L38) (n := (146, 3094845)) (o := 135) (c := 4) (k := 6) (v := 0) (by decide +kernel) rfl
  obtain ⟨I42, e42, b42⟩ := st_pI b41 (L := L38) (n := (146, 3094845)) (o := 135) (c := 4) (k := 7) (v := 0) (by decide +kernel) rfl
  obtain ⟨R43, e43, b43⟩ := st_pR b42 (L := L38) (n := (146, 3094845)) (o := 128) (c := 11) (k := 11) (v := (some 135)) (by decide +kernel) rfl
  obtain ⟨S44, I44, L44, R44, e44, b44⟩ := st_O b43 (L := L38) (sl := 3094845) (z' := 147) (sl' := 3094851) (c := 2) (M := 6) (fs := [.null, .null, .null, .null, .null, .int 0]) rfl rfl rfl (by decide) (by decide)
  obtain ⟨S45, I45, L45, R45, e45, b45⟩ := st_O b44 (L := L44) (sl := 3094851) (z' := 148) (sl' := 3094857) (c := 1) (M := 6) (fs := [.null, .int 0, .null, .null, .null, .null]) rfl rfl rfl (by decide) (by decide)
  obtain ⟨S46, I46, L46, R46, e46, b46⟩ := st_I b45 (L := L45) (sl := 3094857) (z' := 149) (sl' := 3094867) (t := 0) (N := 10) (x := 10) rfl (by decide) (by decide) rfl rfl (by decide) (by decide)
  obtain ⟨R47, e47, b47⟩ := st_pR b46 (L := L46) (n := (149, 3094867)) (o := 147) (c := 1) (k := 0) (v := (some 148)) (by decide +kernel) rfl
  obtain ⟨I48, e48, b48⟩ := st_pI b47 (L := L46) (n := (149, 3094867)) (o := 147) (c := 1) (k := 1) (v := 0) (by decide +kernel) rfl
  obtain ⟨S49, I49, L49, R49, e49, b49⟩ := st_I b48 (L := L46) (sl := 3094867) (z' := 150) (sl' := 3094875) (t := 0) (N := 8) (x := 8) rfl (by decide) (by decide) rfl rfl (by decide) (by decide)
  obtain ⟨R50, e50, b50⟩ := st_pR b49 (L := L49) (n := (150, 3094875)) (o := 147) (c := 1) (k := 2) (v := (some 149)) (by decide +kernel) rfl
  obtain ⟨S51, I51, L51, R51, e51, b51⟩ := st_I b50 (L := L49) (sl := 3094875) (z' := 151) (sl' := 3094878) (t := 0) (N := 3) (x := 3) rfl (by decide) (by decide) rfl rfl (by decide) (by decide)
  obtain ⟨R52, e52, b52⟩ := st_pR b51 (L := L51) (n := (151, 3094878)) (o := 147) (c := 1) (k := 3) (v := (some 150)) (by decide +kernel) rfl
  obtain ⟨S53, I53, L53, R53, e53, b53⟩ := st_I b52 (L := L51) (sl := 3094878) (z' := 152) (sl' := 3094886) (t := 0) (N := 8) (x := 8) rfl (by decide) (by decide) rfl rfl (by decide) (by decide)
  obtain ⟨R54, e54, b54⟩ := st_pR b53 (L := L53) (n := (152, 3094886)) (o := 147) (c := 1) (k := 4) (v := (some 151)) (by decide +kernel) rfl
  obtain ⟨S55, I55, L55, R55, e55, b55⟩ := st_I b54 (L := L53) (sl := 3094886) (z' := 153) (sl' := 3094889) (t := 0) (N := 3) (x := 3) rfl (by decide) (by decide) rfl rfl (by decide) (by decide)
  obtain ⟨R56, e56, b56⟩ := st_pR b55 (L := L55) (n := (153, 3094889)) (o := 147) (c := 1) (k := 5) (v := (some 152)) (by decide +kernel) rfl
  obtain ⟨R57, e57, b57⟩ := st_pR b56 (L := L55) (n := (153, 3094889)) (o := 146) (c := 2) (k := 0) (v := (some 147)) (by decide +kernel) rfl
  obtain ⟨S58, I58, L58, R58, e58, b58⟩ := st_I b57 (L := L55) (sl := 3094889) (z' := 154) (sl' := 3094899) (t := 0) (N := 10) (x := 10) rfl (by decide) (by decide) rfl rfl (by decide) (by decide)
  obtain ⟨R59, e59, b59⟩ := st_pR b58 (L := L58) (n := (154, 3094899)) (o := 146) (c := 2) (k := 1) (v := (some 153)) (by decide +kernel) rfl
  obtain ⟨S60, I60, L60, R60, e60, b60⟩ := st_I b59 (L := L58) (sl := 3094899) (z' := 155) (sl' := 3094909) (t := 0) (N := 10) (x := 10) rfl (by decide) (by decide) rfl rfl (by decide) (by decide)
  obtain ⟨R61, e61, b61⟩ := st_pR b60 (L := L60) (n := (155, 3094909)) (o := 146) (c := 2) (k := 2) (v := (some 154)) (by decide +kernel) rfl
  obtain ⟨S62, I62, L62, R62, e62, b62⟩ := st_I b61 (L := L60) (sl := 3094909) (z' := 156) (sl' := 3094912) (t := 0) (N := 3) (x := 3) rfl (by decide) (by decide) rfl rfl (by decide) (by decide)
  obtain ⟨R63, e63, b63⟩ := st_pR b62 (L := L62) (n := (156, 3094912)) (o := 146) (c := 2) (k := 3) (v := (some 155)) (by decide +kernel) rfl
  obtain ⟨S64, I64, L64, R64, e64, b64⟩ := st_I b63 (L := L62) (sl := 3094912) (z' := 157) (sl' := 3094915) (t := 0) (N := 3) (x := 3) rfl (by decide) (by decide) rfl rfl (by decide) (by decide)
  obtain ⟨R65, e65, b65⟩ := st_pR b64 (L := L64) (n := (157, 3094915)) (o := 146) (c := 2) (k := 4) (v := (some 156)) (by decide +kernel) rfl
  obtain ⟨I66, e66, b66⟩ := st_pI b65 (L := L64) (n := (157, 3094915)) (o := 146) (c := 2) (k := 5) (v := 0) (by decide +kernel) rfl
  obtain ⟨R67, e67, b67⟩ := st_pR b66 (L := L64) (n := (157, 3094915)) (o := 128) (c := 11) (k := 12) (v := (some 146)) (by decide +kernel) rfl
  obtain ⟨S68, I68, L68, R68, e68, b68⟩ := st_O b67 (L := L64) (sl := 3094915) (z' := 158) (sl' := 3094923) (c := 6) (M := 8) (fs := [.null, .null, .null, .null, .int 0, .int 0, .int 0, .int 0]) rfl rfl rfl (by decide) (by decide)
  obtain ⟨S69, I69, L69, R69, e69, b69⟩ := st_I b68 (L := L68) (sl := 3094923) (z' := 159) (sl' := 3094931) (t := 0) (N := 8) (x := 8) rfl (by decide) (by decide) rfl rfl (by decide) (by decide)
  obtain ⟨R70, e70, b70⟩ := st_pR b69 (L := L69) (n := (159, 3094931)) (o := 157) (c := 6) (k := 0) (v := (some 158)) (by decide +kernel) rfl
  obtain ⟨S71, I71, L71, R71, e71, b71⟩ := st_I b70 (L := L69) (sl := 3094931) (z' := 160) (sl' := 3094939) (t := 0) (N := 8) (x := 8) rfl (by decide) (by decide) rfl rfl (by decide) (by decide)
  obtain ⟨R72, e72, b72⟩ := st_pR b71 (L := L71) (n := (160, 3094939)) (o := 157) (c := 6) (k := 1) (v := (some 159)) (by decide +kernel) rfl
  obtain ⟨S73, I73, L73, R73, e73, b73⟩ := st_I b72 (L := L71) (sl := 3094939) (z' := 161) (sl' := 3094947) (t := 0) (N := 8) (x := 8) rfl (by decide) (by decide) rfl rfl (by decide) (by decide)
  obtain ⟨R74, e74, b74⟩ := st_pR b73 (L := L73) (n := (161, 3094947)) (o := 157) (c := 6) (k := 2) (v := (some 160)) (by decide +kernel) rfl
  obtain ⟨R75, e75, b75⟩ := st_pR b74 (L := L73) (n := (161, 3094947)) (o := 157) (c := 6) (k := 3) (v := none) (by decide +kernel) rfl
  obtain ⟨I76, e76, b76⟩ := st_pZ b75 (L := L73) (n := (161, 3094947)) (o := 157) (c := 6) (k := 4) (v := 0) (by decide +kernel) rfl (by decide)
  obtain ⟨I77, e77, b77⟩ := st_pI b76 (L := L73) (n := (161, 3094947)) (o := 157) (c := 6) (k := 5) (v := 0) (by decide +kernel) rfl
  obtain ⟨I78, e78, b78⟩ := st_pZ b77 (L := L73) (n := (161, 3094947)) (o := 157) (c := 6) (k := 6) (v := 0) (by decide +kernel) rfl (by decide)
  obtain ⟨I79, e79, b79⟩ := st_pI b78 (L := L73) (n := (161, 3094947)) (o := 157) (c := 6) (k := 7) (v := 0) (by decide +kernel) rfl
  obtain ⟨R80, e80, b80⟩ := st_pR b79 (L := L73) (n := (161, 3094947)) (o := 128) (c := 11) (k := 13) (v := (some 157)) (by decide +kernel) rfl
  obtain ⟨S81, I81, L81, R81, e81, b81⟩ := st_I b80 (L := L73) (sl := 3094947) (z' := 162) (sl' := 3094955) (t := 0) (N := 8) (x := 8) rfl (by decide) (by decide) rfl rfl (by decide) (by decide)
  obtain ⟨R82, e82, b82⟩ := st_pR b81 (L := L81) (n := (162, 3094955)) (o := 128) (c := 11) (k := 14) (v := (some 161)) (by decide +kernel) rfl
  obtain ⟨S83, I83, L83, R83, e83, b83⟩ := st_I b82 (L := L81) (sl := 3094955) (z' := 163) (sl' := 3094963) (t := 0) (N := 8) (x := 8) rfl (by decide) (by decide) rfl rfl (by decide) (by decide)
  obtain ⟨R84, e84, b84⟩ := st_pR b83 (L := L83) (n := (163, 3094963)) (o := 128) (c := 11) (k := 15) (v := (some 162)) (by decide +kernel) rfl
  obtain ⟨S85, I85, L85, R85, e85, b85⟩ := st_O b84 (L := L83) (sl := 3094963) (z' := 164) (sl' := 3094978) (c := 7) (M := 15) (fs := [.null, .null, .null, .null, .null, .null, .int 0, .int 0, .int 0, .int 0, .int 0, .int 0, .int 0, .int 0, .int 0]) rfl rfl rfl (by decide) (by decide)
  obtain ⟨S86, I86, L86, R86, e86, b86⟩ := st_O b85 (L := L85) (sl := 3094978) (z' := 165) (sl' := 3094984) (c := 9) (M := 6) (fs := [.null, .int 0, .int 0, .int 0, .int 0, .int 0]) rfl rfl rfl (by decide) (by decide)
  obtain ⟨I87, e87, b87⟩ := st_pI b86 (L := L86) (n := (165, 3094984)) (o := 164) (c := 9) (k := 1) (v := 0) (by decide +kernel) rfl
  obtain ⟨I88, e88, b88⟩ := st_pI b87 (L := L86) (n := (165, 3094984)) (o := 164) (c := 9) (k := 2) (v := 0) (by decide +kernel) rfl
  obtain ⟨I89, e89, b89⟩ := st_pI b88 (L := L86) (n := (165, 3094984)) (o := 164) (c := 9) (k := 3) (v := 0) (by decide +kernel) rfl
  obtain ⟨I90, e90, b90⟩ := st_pI b89 (L := L86) (n := (165, 3094984)) (o := 164) (c := 9) (k := 4) (v := 0) (by decide +kernel) rfl
  obtain ⟨I91, e91, b91⟩ := st_pI b90 (L := L86) (n := (165, 3094984)) (o := 164) (c := 9) (k := 5) (v := 0) (by decide +kernel) rfl
  obtain ⟨R92, e92, b92⟩ := st_pR b91 (L := L86) (n := (165, 3094984)) (o := 164) (c := 9) (k := 0) (v := (some 129)) (by decide +kernel) rfl
  obtain ⟨S93, I93, L93, R93, e93, b93⟩ := st_I b92 (L := L86) (sl := 3094984) (z' := 166) (sl' := 3094987) (t := 0) (N := 3) (x := 3) rfl (by decide) (by decide) rfl rfl (by decide) (by decide)
  obtain ⟨R94, e94, b94⟩ := st_pR b93 (L := L93) (n := (166, 3094987)) (o := 163) (c := 7) (k := 1) (v := (some 165)) (by decide +kernel) rfl
  obtain ⟨S95, I95, L95, R95, e95, b95⟩ := st_I b94 (L := L93) (sl := 3094987) (z' := 167) (sl' := 3095027) (t := 0) (N := 40) (x := 40) rfl (by decide) (by decide) rfl rfl (by decide) (by decide)
  obtain ⟨R96, e96, b96⟩ := st_pR b95 (L := L95) (n := (167, 3095027)) (o := 163) (c := 7) (k := 2) (v := (some 166)) (by decide +kernel) rfl
  obtain ⟨S97, I97, L97, R97, e97, b97⟩ := st_I b96 (L := L95) (sl := 3095027) (z' := 168) (sl' := 3095927) (t := 0) (N := 900) (x := 900) rfl (by decide) (by decide) rfl rfl (by decide) (by decide)
  obtain ⟨R98, e98, b98⟩ := st_pR b97 (L := L97) (n := (168, 3095927)) (o := 163) (c := 7) (k := 3) (v := (some 167)) (by decide +kernel) rfl
  obtain ⟨S99, I99, L99, R99, e99, b99⟩ := st_I b98 (L := L97) (sl := 3095927) (z' := 169) (sl' := 3095930) (t := 0) (N := 3) (x := 3) rfl (by decide) (by decide) rfl rfl (by decide) (by decide)
  obtain ⟨R100, e100, b100⟩ := st_pR b99 (L := L99) (n := (169, 3095930)) (o := 163) (c := 7) (k := 4) (v := (some 168)) (by decide +kernel) rfl
  obtain ⟨S101, I101, L101, R101, e101, b101⟩ := st_I b100 (L := L99) (sl := 3095930) (z' := 170) (sl' := 3095933) (t := 0) (N := 3) (x := 3) rfl (by decide) (by decide) rfl rfl (by decide) (by decide)
  obtain ⟨R102, e102, b102⟩ := st_pR b101 (L := L101) (n := (170, 3095933)) (o := 163) (c := 7) (k := 5) (v := (some 169)) (by decide +kernel) rfl
  obtain ⟨I103, e103, b103⟩ := st_pI b102 (L := L101) (n := (170, 3095933)) (o := 163) (c := 7) (k := 6) (v := 2) (by decide +kernel) rfl
  obtain ⟨I104, e104, b104⟩ := st_pI b103 (L := L101) (n := (170, 3095933)) (o := 163) (c := 7) (k := 7) (v := 0) (by decide +kernel) rfl
  obtain ⟨I105, e105, b105⟩ := st_pI b104 (L := L101) (n := (170, 3095933)) (o := 163) (c := 7) (k := 8) (v := 0) (by decide +kernel) rfl
  obtain ⟨I106, e106, b106⟩ := st_pI b105 (L := L101) (n := (170, 3095933)) (o := 163) (c := 7) (k := 9) (v := 0) (by decide +kernel) rfl
  obtain ⟨I107, e107, b107⟩ := st_pI b106 (L := L101) (n := (170, 3095933)) (o := 163) (c := 7) (k := 10) (v := 0) (by decide +kernel) rfl
  obtain ⟨I108, e108, b108⟩ := st_pI b107 (L := L101) (n := (170, 3095933)) (o := 163) (c := 7) (k := 11) (v := 0) (by decide +kernel) rfl
  obtain ⟨I109, e109, b109⟩ := st_pI b108 (L := L101) (n := (170, 3095933)) (o := 163) (c := 7) (k := 12) (v := 0) (by decide +kernel) rfl
  obtain ⟨I110, e110, b110⟩ := st_pI b109 (L := L101) (n := (170, 3095933)) (o := 163) (c := 7) (k := 13) (v := 0) (by decide +kernel) rfl
  obtain ⟨I111, e111, b111⟩ := st_pI b110 (L := L101) (n := (170, 3095933)) (o := 163) (c := 7) (k := 14) (v := -1) (by decide +kernel) rfl
  obtain ⟨R112, e112, b112⟩ := st_pR b111 (L := L101) (n := (170, 3095933)) (o := 163) (c := 7) (k := 0) (v := (some 164)) (by decide +kernel) rfl
  obtain ⟨R113, e113, b113⟩ := st_pR b112 (L := L101) (n := (170, 3095933)) (o := 128) (c := 11) (k := 2) (v := (some 163)) (by decide +kernel) rfl
  obtain ⟨S114, I114, L114, R114, e114, b114⟩ := st_O b113 (L := L101) (sl := 3095933) (z' := 171) (sl' := 3095936) (c := 0) (M := 3) (fs := [.null, .null, .null]) rfl rfl rfl (by decide) (by decide)
  obtain ⟨S115, I115, L115, R115, e115, b115⟩ := st_O b114 (L := L114) (sl := 3095936) (z' := 172) (sl' := 3095943) (c := 8) (M := 7) (fs := [.int 0, .int 0, .int 0, .null, .null, .null, .null]) rfl rfl rfl (by decide) (by decide)
  obtain ⟨S116, I116, L116, R116, e116, b116⟩ := st_I b115 (L := L115) (sl := 3095943) (z' := 173) (sl' := 3095946) (t := 0) (N := 3) (x := 3) rfl (by decide) (by decide) rfl rfl (by decide) (by decide)
  obtain ⟨R117, e117, b117⟩ := st_pR b116 (L := L116) (n := (173, 3095946)) (o := 171) (c := 8) (k := 3) (v := (some 172)) (by decide +kernel) rfl
  obtain ⟨S118, I118, L118, R118, e118, b118⟩ := st_I b117 (L := L116) (sl := 3095946) (z' := 174) (sl' := 3096010) (t := 0) (N := 64) (x := 64) rfl (by decide) (by decide) rfl rfl (by decide) (by decide)
  obtain ⟨R119, e119, b119⟩ := st_pR b118 (L := L118) (n := (174, 3096010)) (o := 171) (c := 8) (k := 4) (v := (some 173)) (by decide +kernel) rfl
  obtain ⟨I120, e120, b120⟩ := st_pI b119 (L := L118) (n := (174, 3096010)) (o := 171) (c := 8) (k := 0) (v := 2) (by decide +kernel) rfl
  obtain ⟨I121, e121, b121⟩ := st_pI b120 (L := L118) (n := (174, 3096010)) (o := 171) (c := 8) (k := 1) (v := 0) (by decide +kernel) rfl
  obtain ⟨I122, e122, b122⟩ := st_pI b121 (L := L118) (n := (174, 3096010)) (o := 171) (c := 8) (k := 2) (v := 0) (by decide +kernel) rfl
  obtain ⟨R123, e123, b123⟩ := st_pR b122 (L := L118) (n := (174, 3096010)) (o := 171) (c := 8) (k := 5) (v := none) (by decide +kernel) rfl
  obtain ⟨R124, e124, b124⟩ := st_pR b123 (L := L118) (n := (174, 3096010)) (o := 171) (c := 8) (k := 6) (v := none) (by decide +kernel) rfl
  obtain ⟨S125, I125, L125, R125, e125, b125⟩ := st_I b124 (L := L118) (sl := 3096010) (z' := 175) (sl' := 3096091) (t := 0) (N := 81) (x := 81) rfl (by decide) (by decide) rfl rfl (by decide) (by decide)
  obtain ⟨R126, e126, b126⟩ := st_pR b125 (L := L125) (n := (175, 3096091)) (o := 170) (c := 0) (k := 0) (v := (some 174)) (by decide +kernel) rfl
  obtain ⟨S127, I127, L127, R127, e127, b127⟩ := st_O b126 (L := L125) (sl := 3096091) (z' := 176) (sl' := 3096097) (c := 1) (M := 6) (fs := [.null, .int 0, .null, .null, .null, .null]) rfl rfl rfl (by decide) (by decide)
  obtain ⟨S128, I128, L128, R128, e128, b128⟩ := st_I b127 (L := L127) (sl := 3096097) (z' := 177) (sl' := 3096107) (t := 0) (N := 10) (x := 10) rfl (by decide) (by decide) rfl rfl (by decide) (by decide)
  obtain ⟨R129, e129, b129⟩ := st_pR b128 (L := L128) (n := (177, 3096107)) (o := 175) (c := 1) (k := 0) (v := (some 176)) (by decide +kernel) rfl
  obtain ⟨I130, e130, b130⟩ := st_pI b129 (L := L128) (n := (177, 3096107)) (o := 175) (c := 1) (k := 1) (v := 0) (by decide +kernel) rfl
  obtain ⟨S131, I131, L131, R131, e131, b131⟩ := st_I b130 (L := L128) (sl := 3096107) (z' := 178) (sl' := 3096115) (t := 0) (N := 8) (x := 8) rfl (by decide) (by decide) rfl rfl (by decide) (by decide)
  obtain ⟨R132, e132, b132⟩ := st_pR b131 (L := L131) (n := (178, 3096115)) (o := 175) (c := 1) (k := 2) (v := (some 177)) (by decide +kernel) rfl
  obtain ⟨S133, I133, L133, R133, e133, b133⟩ := st_I b132 (L := L131) (sl := 3096115) (z' := 179) (sl' := 3096118) (t := 0) (N := 3) (x := 3) rfl (by decide) (by decide) rfl rfl (by decide) (by decide)
  obtain ⟨R134, e134, b134⟩ := st_pR b133 (L := L133) (n := (179, 3096118)) (o := 175) (c := 1) (k := 3) (v := (some 178)) (by decide +kernel) rfl
  obtain ⟨S135, I135, L135, R135, e135, b135⟩ := st_I b134 (L := L133) (sl := 3096118) (z' := 180) (sl' := 3096126) (t := 0) (N := 8) (x := 8) rfl (by decide) (by decide) rfl rfl (by decide) (by decide)
  obtain ⟨R136, e136, b136⟩ := st_pR b135 (L := L135) (n := (180, 3096126)) (o := 175) (c := 1) (k := 4) (v := (some 179)) (by decide +kernel) rfl
  obtain ⟨S137, I137, L137, R137, e137, b137⟩ := st_I b136 (L := L135) (sl := 3096126) (z' := 181) (sl' := 3096129) (t := 0) (N := 3) (x := 3) rfl (by decide) (by decide) rfl rfl (by decide) (by decide)
  obtain ⟨R138, e138, b138⟩ := st_pR b137 (L := L137) (n := (181, 3096129)) (o := 175) (c := 1) (k := 5) (v := (some 180)) (by decide +kernel) rfl
  obtain ⟨R139, e139, b139⟩ := st_pR b138 (L := L137) (n := (181, 3096129)) (o := 170) (c := 0) (k := 1) (v := (some 175)) (by decide +kernel) rfl
  obtain ⟨R140, e140, b140⟩ := st_pR b139 (L := L137) (n := (181, 3096129)) (o := 170) (c := 0) (k := 2) (v := (some 171)) (by decide +kernel) rfl
  obtain ⟨I141, e141, b141⟩ := st_clr b140 (L := L137) (n := (181, 3096129)) (o := 170) (ca := 174) (by decide +kernel) (by decide +kernel) (by decide +kernel) (by decide +kernel)
  obtain ⟨R142, e142, b142⟩ := st_pR b141 (L := L137) (n := (181, 3096129)) (o := 128) (c := 11) (k := 5) (v := (some 170)) (by decide +kernel) rfl
  obtain ⟨S143, I143, L143, R143, e143, b143⟩ := st_O b142 (L := L137) (sl := 3096129) (z' := 182) (sl' := 3096132) (c := 0) (M := 3) (fs := [.null, .null, .null]) rfl rfl rfl (by decide) (by decide)
  obtain ⟨S144, I144, L144, R144, e144, b144⟩ := st_I b143 (L := L143) (sl := 3096132) (z' := 183) (sl' := 3096213) (t := 0) (N := 81) (x := 81) rfl (by decide) (by decide) rfl rfl (by decide) (by decide)
  obtain ⟨R145, e145, b145⟩ := st_pR b144 (L := L144) (n := (183, 3096213)) (o := 181) (c := 0) (k := 0) (v := (some 182)) (by decide +kernel) rfl
  obtain ⟨S146, I146, L146, R146, e146, b146⟩ := st_O b145 (L := L144) (sl := 3096213) (z' := 184) (sl' := 3096219) (c := 1) (M := 6) (fs := [.null, .int 0, .null, .null, .null, .null]) rfl rfl rfl (by decide) (by decide)
  obtain ⟨S147, I147, L147, R147, e147, b147⟩ := st_I b146 (L := L146) (sl := 3096219) (z' := 185) (sl' := 3096229) (t := 0) (N := 10) (x := 10) rfl (by decide) (by decide) rfl rfl (by decide) (by decide)
  obtain ⟨R148, e148, b148⟩ := st_pR b147 (L := L147) (n := (185, 3096229)) (o := 183) (c := 1) (k := 0) (v := (some 184)) (by decide +kernel) rfl
  obtain ⟨I149, e149, b149⟩ := st_pI b148 (L := L147) (n := (185, 3096229)) (o := 183) (c := 1) (k := 1) (v := 0) (by decide +kernel) rfl
  obtain ⟨S150, I150, L150, R150, e150, b150⟩ := st_I b149 (L := L147) (sl := 3096229) (z' := 186) (sl' := 3096237) (t := 0) (N := 8) (x := 8) rfl (by decide) (by decide) rfl rfl (by decide) (by decide)
  obtain ⟨R151, e151, b151⟩ := st_pR b150 (L := L150) (n := (186, 3096237)) (o := 183) (c := 1) (k := 2) (v := (some 185)) (by decide +kernel) rfl
  obtain ⟨S152, I152, L152, R152, e152, b152⟩ := st_I b151 (L := L150) (sl := 3096237) (z' := 187) (sl' := 3096240) (t := 0) (N := 3) (x := 3) rfl (by decide) (by decide) rfl rfl (by decide) (by decide)
  obtain ⟨R153, e153, b153⟩ := st_pR b152 (L := L152) (n := (187, 3096240)) (o := 183) (c := 1) (k := 3) (v := (some 186)) (by decide +kernel) rfl
  obtain ⟨S154, I154, L154, R154, e154, b154⟩ := st_I b153 (L := L152) (sl := 3096240) (z' := 188) (sl' := 3096248) (t := 0) (N := 8) (x := 8) rfl (by decide) (by decide) rfl rfl (by decide) (by decide)
  obtain ⟨R155, e155, b155⟩ := st_pR b154 (L := L154) (n := (188, 3096248)) (o := 183) (c := 1) (k := 4) (v := (some 187)) (by decide +kernel) rfl
  obtain ⟨S156, I156, L156, R156, e156, b156⟩ := st_I b155 (L := L154) (sl := 3096248) (z' := 189) (sl' := 3096251) (t := 0) (N := 3) (x := 3) rfl (by decide) (by decide) rfl rfl (by decide) (by decide)
  obtain ⟨R157, e157, b157⟩ := st_pR b156 (L := L156) (n := (189, 3096251)) (o := 183) (c := 1) (k := 5) (v := (some 188)) (by decide +kernel) rfl
  obtain ⟨R158, e158, b158⟩ := st_pR b157 (L := L156) (n := (189, 3096251)) (o := 181) (c := 0) (k := 1) (v := (some 183)) (by decide +kernel) rfl
  obtain ⟨R159, e159, b159⟩ := st_pR b158 (L := L156) (n := (189, 3096251)) (o := 181) (c := 0) (k := 2) (v := (some 171)) (by decide +kernel) rfl
  obtain ⟨I160, e160, b160⟩ := st_clr b159 (L := L156) (n := (189, 3096251)) (o := 181) (ca := 182) (by decide +kernel) (by decide +kernel) (by decide +kernel) (by decide +kernel)
  obtain ⟨R161, e161, b161⟩ := st_pR b160 (L := L156) (n := (189, 3096251)) (o := 128) (c := 11) (k := 7) (v := (some 181)) (by decide +kernel) rfl
  obtain ⟨S162, I162, L162, R162, e162, b162⟩ := st_O b161 (L := L156) (sl := 3096251) (z' := 190) (sl' := 3096254) (c := 10) (M := 3) (fs := [.null, .int 0, .int 0]) rfl rfl rfl (by decide) (by decide)
  obtain ⟨S163, I163, L163, R163, e163, b163⟩ := st_L b162 (L := L162) (sl := 3096254) (z' := 191) (sl' := 3096284) (N := 30) (x := 30) rfl (by decide) rfl rfl (by decide) (by decide)
  obtain ⟨R164, e164, b164⟩ := st_pR b163 (L := L163) (n := (191, 3096284)) (o := 189) (c := 10) (k := 0) (v := (some 190)) (by decide +kernel) rfl
  obtain ⟨I165, e165, b165⟩ := st_pI b164 (L := L163) (n := (191, 3096284)) (o := 189) (c := 10) (k := 1) (v := 0) (by decide +kernel) rfl
  obtain ⟨I166, e166, b166⟩ := st_pI b165 (L := L163) (n := (191, 3096284)) (o := 189) (c := 10) (k := 2) (v := -1) (by decide +kernel) rfl
  obtain ⟨R167, e167, b167⟩ := st_sR4 b166 (L := L163) (n := (191, 3096284)) (o := 134) (N := 4) (k := 0) (c := 10) (v := 189) (i := 0) (by decide +kernel) (by decide +kernel) rfl (by decide) (by decide)
  obtain ⟨S168, I168, L168, R168, e168, b168⟩ := st_O b167 (L := L163) (sl := 3096284) (z' := 192) (sl' := 3096287) (c := 10) (M := 3) (fs := [.null, .int 0, .int 0]) rfl rfl rfl (by decide) (by decide)
  obtain ⟨S169, I169, L169, R169, e169, b169⟩ := st_L b168 (L := L168) (sl := 3096287) (z' := 193) (sl' := 3096317) (N := 30) (x := 30) rfl (by decide) rfl rfl (by decide) (by decide)
  obtain ⟨R170, e170, b170⟩ := st_pR b169 (L := L169) (n := (193, 3096317)) (o := 191) (c := 10) (k := 0) (v := (some 192)) (by decide +kernel) rfl
  obtain ⟨I171, e171, b171⟩ := st_pI b170 (L := L169) (n := (193, 3096317)) (o := 191) (c := 10) (k := 1) (v := 0) (by decide +kernel) rfl
  obtain ⟨I172, e172, b172⟩ := st_pI b171 (L := L169) (n := (193, 3096317)) (o := 191) (c := 10) (k := 2) (v := -1) (by decide +kernel) rfl
  obtain ⟨R173, e173, b173⟩ := st_sR4 b172 (L := L169) (n := (193, 3096317)) (o := 134) (N := 4) (k := 1) (c := 10) (v := 191) (i := 1) (by decide +kernel) (by decide +kernel) rfl (by decide) (by decide)
  obtain ⟨S174, I174, L174, R174, e174, b174⟩ := st_O b173 (L := L169) (sl := 3096317) (z' := 194) (sl' := 3096320) (c := 10) (M := 3) (fs := [.null, .int 0, .int 0]) rfl rfl rfl (by decide) (by decide)
  obtain ⟨S175, I175, L175, R175, e175, b175⟩ := st_L b174 (L := L174) (sl := 3096320) (z' := 195) (sl' := 3096350) (N := 30) (x := 30) rfl (by decide) rfl rfl (by decide) (by decide)
  obtain ⟨R176, e176, b176⟩ := st_pR b175 (L := L175) (n := (195, 3096350)) (o := 193) (c := 10) (k := 0) (v := (some 194)) (by decide +kernel) rfl
  obtain ⟨I177, e177, b177⟩ := st_pI b176 (L := L175) (n := (195, 3096350)) (o := 193) (c := 10) (k := 1) (v := 0) (by decide +kernel) rfl
  obtain ⟨I178, e178, b178⟩ := st_pI b177 (L := L175) (n := (195, 3096350)) (o := 193) (c := 10) (k := 2) (v := -1) (by decide +kernel) rfl
  obtain ⟨R179, e179, b179⟩ := st_sR4 b178 (L := L175) (n := (195, 3096350)) (o := 134) (N := 4) (k := 2) (c := 10) (v := 193) (i := 2) (by decide +kernel) (by decide +kernel) rfl (by decide) (by decide)
  obtain ⟨S180, I180, L180, R180, e180, b180⟩ := st_O b179 (L := L175) (sl := 3096350) (z' := 196) (sl' := 3096353) (c := 10) (M := 3) (fs := [.null, .int 0, .int 0]) rfl rfl rfl (by decide) (by decide)
  obtain ⟨S181, I181, L181, R181, e181, b181⟩ := st_L b180 (L := L180) (sl := 3096353) (z' := 197) (sl' := 3096383) (N := 30) (x := 30) rfl (by decide) rfl rfl (by decide) (by decide)
  obtain ⟨R182, e182, b182⟩ := st_pR b181 (L := L181) (n := (197, 3096383)) (o := 195) (c := 10) (k := 0) (v := (some 196)) (by decide +kernel) rfl
  obtain ⟨I183, e183, b183⟩ := st_pI b182 (L := L181) (n := (197, 3096383)) (o := 195) (c := 10) (k := 1) (v := 0) (by decide +kernel) rfl
  obtain ⟨I184, e184, b184⟩ := st_pI b183 (L := L181) (n := (197, 3096383)) (o := 195) (c := 10) (k := 2) (v := -1) (by decide +kernel) rfl
  obtain ⟨R185, e185, b185⟩ := st_sR4 b184 (L := L181) (n := (197, 3096383)) (o := 134) (N := 4) (k := 3) (c := 10) (v := 195) (i := 3) (by decide +kernel) (by decide +kernel) rfl (by decide) (by decide)
  refine ⟨_, _, L181, _, ?_, b185⟩
  obtain ⟨g, hg⟩ : ∃ g, mm_N = g + 5 := ⟨mm_N - 5, by unfold mm_N; omega⟩
  unfold F_X11_init
  rw [hg]
  rw [Option.bind_some, e1, b2_some, e2, Option.bind_some, e3, Option.bind_some, e4, Option.bind_some, e5, Option.bind_some, e6]
  rw [b2_some, Option.bind_some, x3_eq, Option.bind_some, e7, b2_some, e8, Option.bind_some, e9, Option.bind_some, e10, Option.bind_some]
  rw [Option.bind_some, e11, Option.bind_some, e12, b2_some, e13, Option.bind_some, e14, b2_some, e15, Option.bind_some, e16]
  rw [b2_some, e17, Option.bind_some, e18, b2_some, Option.bind_some, x4_eq, Option.bind_some, e19, b2_some, Option.bind_some, x1_eq]
  rw [Option.bind_some, e20, b2_some, e21, Option.bind_some, e22, Option.bind_some, e23, b2_some, e24, Option.bind_some, e25]
  rw [b2_some, e26, Option.bind_some, e27, b2_some, e28, Option.bind_some, e29, b2_some, e30, Option.bind_some, Option.bind_some]
  rw [e31, Option.bind_some, e32, b2_some, e33, Option.bind_some, e34, b2_some, e35, Option.bind_some, e36, b2_some]
  rw [e37, Option.bind_some, e38, b2_some, e39, Option.bind_some, e40, Option.bind_some, e41, Option.bind_some, e42, Option.bind_some]
  rw [Option.bind_some, e43, Option.bind_some, e44, b2_some, Option.bind_some, x2_eq, Option.bind_some, e45, b2_some, Option.bind_some, x1_eq]
  rw [Option.bind_some, e46, b2_some, e47, Option.bind_some, e48, Option.bind_some, e49, b2_some, e50, Option.bind_some, e51]
  rw [b2_some, e52, Option.bind_some, e53, b2_some, e54, Option.bind_some, e55, b2_some, e56, Option.bind_some, Option.bind_some]
  rw [e57, Option.bind_some, e58, b2_some, e59, Option.bind_some, e60, b2_some, e61, Option.bind_some, e62, b2_some]
  rw [e63, Option.bind_some, e64, b2_some, e65, Option.bind_some, e66, Option.bind_some, Option.bind_some, e67, Option.bind_some, e68]
  rw [b2_some, Option.bind_some, x6_eq, Option.bind_some, e69, b2_some, e70, Option.bind_some, e71, b2_some, e72, Option.bind_some]
  rw [e73, b2_some, e74, Option.bind_some, e75, Option.bind_some, e76, Option.bind_some, e77, Option.bind_some, e78, Option.bind_some]
  rw [e79, Option.bind_some, Option.bind_some, e80, Option.bind_some, e81, b2_some, e82, Option.bind_some, e83, b2_some, e84]
  rw [Option.bind_some, e85, b2_some, e86, b2_some, st_gR b86 (o := 128) (c := 11) (k := 0) (v := some 129) (by decide +kernel) rfl (by decide +kernel), Option.bind_some, Option.bind_some, x9_eq, Option.bind_some, e87, Option.bind_some]
  rw [e88, Option.bind_some, e89, Option.bind_some, e90, Option.bind_some, e91, Option.bind_some, e92, Option.bind_some, Option.bind_some, Option.bind_some]
  rw [x7_eq, Option.bind_some, e93, b2_some, e94, Option.bind_some, e95, b2_some, e96, Option.bind_some, e97, b2_some]
  rw [e98, Option.bind_some, e99, b2_some, e100, Option.bind_some, e101, b2_some, e102, Option.bind_some, e103, Option.bind_some]
  rw [e104, Option.bind_some, e105, Option.bind_some, e106, Option.bind_some, e107, Option.bind_some, e108, Option.bind_some, e109, Option.bind_some]
  rw [e110, Option.bind_some, e111, Option.bind_some, e112, Option.bind_some, Option.bind_some, e113, Option.bind_some, e114, b2_some, e115]
  rw [b2_some, st_gR b115 (o := 128) (c := 11) (k := 2) (v := some 163) (by decide +kernel) rfl (by decide +kernel), Option.bind_some, Option.bind_some, x8_eq, Option.bind_some, e116, b2_some, e117, Option.bind_some, e118, b2_some]
  rw [e119, Option.bind_some, st_cV b119 (o := 163) (c := 7) (by decide +kernel), st_lines b119 (v := 2) (by decide +kernel) (by decide +kernel), b2_some, show (mxI (2 : Int32) (mnI (8 : Int32) 2)) = 2 from by decide, e120, Option.bind_some, st_cV b120 (o := 163) (c := 7) (by decide +kernel), st_cords b120 (v := 0) (by decide +kernel) (by decide +kernel), b2_some, show (mxI (0 : Int32) (mnI (3 : Int32) 0)) = 0 from by decide]
  rw [e121, Option.bind_some, st_cV b121 (o := 163) (c := 7) (by decide +kernel), st_textLines b121 (v := 0) (by decide +kernel) (by decide +kernel), b2_some, e122, Option.bind_some, hg, i62_step, st_gI b122 (o := 171) (c := 8) (k := 1) (v := 0) (by decide +kernel) rfl (by decide +kernel), Option.bind_some, if_pos (by decide)]
  rw [st_cV b122 (o := 163) (c := 7) (by decide +kernel), lawOf0 b122 (w := 0) (i := 0) rfl (by decide) (by decide +kernel) (by decide +kernel) (by decide +kernel) (by decide +kernel) (by decide +kernel) (by decide +kernel) (by decide +kernel), b2_some, e123, Option.bind_some, st_cV b123 (o := 163) (c := 7) (by decide +kernel), lawOf0 b123 (w := 2) (i := 2) rfl (by decide) (by decide +kernel) (by decide +kernel) (by decide +kernel) (by decide +kernel) (by decide +kernel) (by decide +kernel) (by decide +kernel), b2_some, e124, Option.bind_some, st_cV b124 (o := 163) (c := 7) (by decide +kernel), lawOf0 b124 (w := 1) (i := 1) rfl (by decide) (by decide +kernel) (by decide +kernel) (by decide +kernel) (by decide +kernel) (by decide +kernel) (by decide +kernel) (by decide +kernel)]
  rw [b2_some, hg, i113_step, if_pos rfl, i174, Option.bind_some, Option.bind_some, x0_eq, Option.bind_some, e125, b2_some, e126]
  rw [Option.bind_some, e127, b2_some, Option.bind_some, x1_eq, Option.bind_some, e128, b2_some, e129, Option.bind_some, e130, Option.bind_some]
  rw [e131, b2_some, e132, Option.bind_some, e133, b2_some, e134, Option.bind_some, e135, b2_some, e136, Option.bind_some]
  rw [e137, b2_some, e138, Option.bind_some, Option.bind_some, e139, Option.bind_some, e140, Option.bind_some, st_cV b140 (o := 170) (c := 0) (by decide +kernel), e141, Option.bind_some]
  rw [Option.bind_some, e142, Option.bind_some, e143, b2_some, st_gR b143 (o := 128) (c := 11) (k := 5) (v := some 170) (by decide +kernel) rfl (by decide +kernel), Option.bind_some, st_gR b143 (o := 170) (c := 0) (k := 2) (v := some 171) (by decide +kernel) rfl (by decide +kernel), Option.bind_some, Option.bind_some, x0_eq, Option.bind_some]
  rw [e144, b2_some, e145, Option.bind_some, e146, b2_some, Option.bind_some, x1_eq, Option.bind_some, e147, b2_some, e148]
  rw [Option.bind_some, e149, Option.bind_some, e150, b2_some, e151, Option.bind_some, e152, b2_some, e153, Option.bind_some, e154]
  rw [b2_some, e155, Option.bind_some, e156, b2_some, e157, Option.bind_some, Option.bind_some, e158, Option.bind_some, e159, Option.bind_some]
  rw [st_cV b159 (o := 181) (c := 0) (by decide +kernel), e160, Option.bind_some, Option.bind_some, e161, Option.bind_some, tray_step, if_neg (by decide), st_gR b161 (o := 128) (c := 11) (k := 10) (v := some 134) (by decide +kernel) rfl (by decide +kernel), Option.bind_some, e162, b2_some]
  rw [Option.bind_some, x10_eq, Option.bind_some, e163, b2_some, e164, Option.bind_some, e165, Option.bind_some, e166, Option.bind_some, Option.bind_some]
  rw [e167, Option.bind_some, show (0 : Int32) + 1 = 1 from rfl, tray_step, if_neg (by decide), st_gR b167 (o := 128) (c := 11) (k := 10) (v := some 134) (by decide +kernel) rfl (by decide +kernel), Option.bind_some, e168, b2_some, Option.bind_some, x10_eq, Option.bind_some]
  rw [e169, b2_some, e170, Option.bind_some, e171, Option.bind_some, e172, Option.bind_some, Option.bind_some, e173, Option.bind_some, show (1 : Int32) + 1 = 2 from rfl]
  rw [tray_step, if_neg (by decide), st_gR b173 (o := 128) (c := 11) (k := 10) (v := some 134) (by decide +kernel) rfl (by decide +kernel), Option.bind_some, e174, b2_some, Option.bind_some, x10_eq, Option.bind_some, e175, b2_some, e176]
  rw [Option.bind_some, e177, Option.bind_some, e178, Option.bind_some, Option.bind_some, e179, Option.bind_some, show (2 : Int32) + 1 = 3 from rfl, tray_step, if_neg (by decide), st_gR b179 (o := 128) (c := 11) (k := 10) (v := some 134) (by decide +kernel) rfl (by decide +kernel)]
  rw [Option.bind_some, e180, b2_some, Option.bind_some, x10_eq, Option.bind_some, e181, b2_some, e182, Option.bind_some, e183, Option.bind_some]
  rw [e184, Option.bind_some, Option.bind_some, e185, Option.bind_some, show (3 : Int32) + 1 = 4 from rfl, tray_step, if_pos (by decide)]
