theorem wd_175 : Cond.classLink RL 8 RX11 ∈ lw_good := mm_wd 175 (by decide +kernel) (by decide +kernel)
theorem wd_176 : Cond.instantiable RX11 16 ∈ lw_good := mm_wd 176 (by decide +kernel) (by decide +kernel)
theorem wd_179 : Cond.code yX11_init cX11_init 2 none ∈ lw_good := mm_wd 179 (by decide +kernel) (by decide +kernel)
theorem tT_X11_init : mm_T yX11_init cX11_init 2 none 0 := ⟨wd_179, wd_142, by decide +kernel, by decide +kernel, by decide +kernel, by decide +kernel⟩
theorem wd_177 : Cond.methodLink RL 127 yX11_init ∈ lw_good := mm_wd 177 (by decide +kernel) (by decide +kernel)
theorem wd_178 : Cond.instanceMethod yX11_init ∈ lw_good := mm_wd 178 (by decide +kernel) (by decide +kernel)
theorem wd_1993 : Cond.classLink RL 128 RX12 ∈ lw_good := mm_wd 1993 (by decide +kernel) (by decide +kernel)
theorem wd_1994 : Cond.instantiable RX12 48 ∈ lw_good := mm_wd 1994 (by decide +kernel) (by decide +kernel)
theorem wd_1997 : Cond.code yX12_init cX12_init 2 none ∈ lw_good := mm_wd 1997 (by decide +kernel) (by decide +kernel)
theorem tT_X12_init : mm_T yX12_init cX12_init 2 none 0 := ⟨wd_1997, wd_170, by decide +kernel, by decide +kernel, by decide +kernel, by decide +kernel⟩
theorem wd_1995 : Cond.methodLink RL 130 yX12_init ∈ lw_good := mm_wd 1995 (by decide +kernel) (by decide +kernel)
theorem wd_1996 : Cond.instanceMethod yX12_init ∈ lw_good := mm_wd 1996 (by decide +kernel) (by decide +kernel)
theorem wd_897 : Cond.code yX11_feed cX11_feed 6 (some .int) ∈ lw_good := mm_wd 897 (by decide +kernel) (by decide +kernel)
theorem tT_X11_feed : mm_T yX11_feed cX11_feed 6 (some .int) 5 := ⟨wd_897, wd_142, by decide +kernel, by decide +kernel, by decide +kernel, by decide +kernel⟩
theorem wd_894 : Cond.methodLink RL 131 yX11_feed ∈ lw_good := mm_wd 894 (by decide +kernel) (by decide +kernel)
theorem wd_895 : Cond.instanceMethod yX11_feed ∈ lw_good := mm_wd 895 (by decide +kernel) (by decide +kernel)
theorem wd_896 : Cond.selects RX11 yX11_feed yX11_feed ∈ lw_good := mm_wd 896 (by decide +kernel) (by decide +kernel)
theorem wd_2152 : Cond.code yX12_feed cX12_feed 8 (some .int) ∈ lw_good := mm_wd 2152 (by decide +kernel) (by decide +kernel)
theorem tT_X12_feed : mm_T yX12_feed cX12_feed 8 (some .int) 5 := ⟨wd_2152, wd_170, by decide +kernel, by decide +kernel, by decide +kernel, by decide +kernel⟩
theorem wd_2149 : Cond.methodLink RL 135 yX12_feed ∈ lw_good := mm_wd 2149 (by decide +kernel) (by decide +kernel)
theorem wd_2150 : Cond.instanceMethod yX12_feed ∈ lw_good := mm_wd 2150 (by decide +kernel) (by decide +kernel)
theorem wd_2151 : Cond.selects RX12 yX12_feed yX12_feed ∈ lw_good := mm_wd 2151 (by decide +kernel) (by decide +kernel)
theorem wd_141 : Cond.initialized RL ∈ lw_good := mm_wd 141 (by decide +kernel) (by decide +kernel)
theorem tT_L_exchange : mm_TW yL_exchange cL_exchange 4 (some .int) [(0, 9, 12, 13)] 3 := ⟨List.mem_filter.mpr ⟨by decide +kernel, by decide +kernel⟩, wd_141, by decide +kernel, by decide +kernel, by decide +kernel, by decide +kernel⟩
theorem wd_1155 : Cond.methodLink RL 136 yL_exchange ∈ lw_good := mm_wd 1155 (by decide +kernel) (by decide +kernel)
theorem wd_1156 : Cond.static yL_exchange ∈ lw_good := mm_wd 1156 (by decide +kernel) (by decide +kernel)
theorem wd_2156 : Cond.code yX12_exchange cX12_exchange 3 (some .int) ∈ lw_good := mm_wd 2156 (by decide +kernel) (by decide +kernel)
theorem tT_X12_exchange : mm_T yX12_exchange cX12_exchange 3 (some .int) 1 := ⟨wd_2156, wd_170, by decide +kernel, by decide +kernel, by decide +kernel, by decide +kernel⟩
theorem wd_2153 : Cond.methodLink RL 141 yX12_exchange ∈ lw_good := mm_wd 2153 (by decide +kernel) (by decide +kernel)
theorem wd_2154 : Cond.instanceMethod yX12_exchange ∈ lw_good := mm_wd 2154 (by decide +kernel) (by decide +kernel)
theorem wd_2155 : Cond.selects RX12 yX12_exchange yX12_exchange ∈ lw_good := mm_wd 2155 (by decide +kernel) (by decide +kernel)
theorem wd_2148 : Cond.code yX12_thrown cX12_thrown 1 (some .int) ∈ lw_good := mm_wd 2148 (by decide +kernel) (by decide +kernel)
theorem tT_X12_thrown : mm_T yX12_thrown cX12_thrown 1 (some .int) 0 := ⟨wd_2148, wd_170, by decide +kernel, by decide +kernel, by decide +kernel, by decide +kernel⟩
theorem wd_2145 : Cond.methodLink RL 142 yX12_thrown ∈ lw_good := mm_wd 2145 (by decide +kernel) (by decide +kernel)
theorem wd_2146 : Cond.instanceMethod yX12_thrown ∈ lw_good := mm_wd 2146 (by decide +kernel) (by decide +kernel)
theorem wd_2147 : Cond.selects RX12 yX12_thrown yX12_thrown ∈ lw_good := mm_wd 2147 (by decide +kernel) (by decide +kernel)
theorem wd_905 : Cond.code yX11_fault cX11_fault 2 (some .int) ∈ lw_good := mm_wd 905 (by decide +kernel) (by decide +kernel)
theorem tT_X11_fault : mm_T yX11_fault cX11_fault 2 (some .int) 1 := ⟨wd_905, wd_142, by decide +kernel, by decide +kernel, by decide +kernel, by decide +kernel⟩
theorem wd_902 : Cond.methodLink RL 146 yX11_fault ∈ lw_good := mm_wd 902 (by decide +kernel) (by decide +kernel)
theorem wd_903 : Cond.instanceMethod yX11_fault ∈ lw_good := mm_wd 903 (by decide +kernel) (by decide +kernel)
theorem wd_904 : Cond.selects RX11 yX11_fault yX11_fault ∈ lw_good := mm_wd 904 (by decide +kernel) (by decide +kernel)
theorem wd_2302 : Cond.code yX12_fault cX12_fault 2 (some .int) ∈ lw_good := mm_wd 2302 (by decide +kernel) (by decide +kernel)
theorem tT_X12_fault : mm_T yX12_fault cX12_fault 2 (some .int) 1 := ⟨wd_2302, wd_170, by decide +kernel, by decide +kernel, by decide +kernel, by decide +kernel⟩
theorem wd_2299 : Cond.methodLink RL 149 yX12_fault ∈ lw_good := mm_wd 2299 (by decide +kernel) (by decide +kernel)
theorem wd_2300 : Cond.instanceMethod yX12_fault ∈ lw_good := mm_wd 2300 (by decide +kernel) (by decide +kernel)
theorem wd_2301 : Cond.selects RX12 yX12_fault yX12_fault ∈ lw_good := mm_wd 2301 (by decide +kernel) (by decide +kernel)
theorem tT_L_line : mm_TW yL_line cL_line 5 (some .int) [(0, 10, 13, 19), (0, 10, 17, 13)] 4 := ⟨List.mem_filter.mpr ⟨by decide +kernel, by decide +kernel⟩, wd_141, by decide +kernel, by decide +kernel, by decide +kernel, by decide +kernel⟩
theorem wd_1422 : Cond.methodLink RL 150 yL_line ∈ lw_good := mm_wd 1422 (by decide +kernel) (by decide +kernel)
theorem wd_1423 : Cond.static yL_line ∈ lw_good := mm_wd 1423 (by decide +kernel) (by decide +kernel)
theorem wd_2306 : Cond.code yX12_line cX12_line 4 (some .int) ∈ lw_good := mm_wd 2306 (by decide +kernel) (by decide +kernel)
theorem tT_X12_line : mm_T yX12_line cX12_line 4 (some .int) 2 := ⟨wd_2306, wd_170, by decide +kernel, by decide +kernel, by decide +kernel, by decide +kernel⟩
theorem wd_2303 : Cond.methodLink RL 153 yX12_line ∈ lw_good := mm_wd 2303 (by decide +kernel) (by decide +kernel)
theorem wd_2304 : Cond.instanceMethod yX12_line ∈ lw_good := mm_wd 2304 (by decide +kernel) (by decide +kernel)
theorem wd_2305 : Cond.selects RX12 yX12_line yX12_line ∈ lw_good := mm_wd 2305 (by decide +kernel) (by decide +kernel)
theorem tT_L_cord : mm_TW yL_cord cL_cord 5 (some .int) [(0, 10, 13, 19), (0, 10, 17, 13)] 4 := ⟨List.mem_filter.mpr ⟨by decide +kernel, by decide +kernel⟩, wd_141, by decide +kernel, by decide +kernel, by decide +kernel, by decide +kernel⟩
theorem wd_1455 : Cond.methodLink RL 154 yL_cord ∈ lw_good := mm_wd 1455 (by decide +kernel) (by decide +kernel)
theorem wd_1456 : Cond.static yL_cord ∈ lw_good := mm_wd 1456 (by decide +kernel) (by decide +kernel)
theorem wd_2326 : Cond.code yX12_cord cX12_cord 3 (some .int) ∈ lw_good := mm_wd 2326 (by decide +kernel) (by decide +kernel)
theorem tT_X12_cord : mm_T yX12_cord cX12_cord 3 (some .int) 2 := ⟨wd_2326, wd_170, by decide +kernel, by decide +kernel, by decide +kernel, by decide +kernel⟩
theorem wd_2323 : Cond.methodLink RL 156 yX12_cord ∈ lw_good := mm_wd 2323 (by decide +kernel) (by decide +kernel)
theorem wd_2324 : Cond.instanceMethod yX12_cord ∈ lw_good := mm_wd 2324 (by decide +kernel) (by decide +kernel)
theorem wd_2325 : Cond.selects RX12 yX12_cord yX12_cord ∈ lw_good := mm_wd 2325 (by decide +kernel) (by decide +kernel)
theorem tT_L_call : mm_TW yL_call cL_call 5 (some .int) [(0, 10, 13, 19), (0, 10, 17, 13)] 4 := ⟨List.mem_filter.mpr ⟨by decide +kernel, by decide +kernel⟩, wd_141, by decide +kernel, by decide +kernel, by decide +kernel, by decide +kernel⟩
theorem wd_1471 : Cond.methodLink RL 157 yL_call ∈ lw_good := mm_wd 1471 (by decide +kernel) (by decide +kernel)
theorem wd_1472 : Cond.static yL_call ∈ lw_good := mm_wd 1472 (by decide +kernel) (by decide +kernel)
theorem wd_2334 : Cond.code yX12_call cX12_call 3 (some .int) ∈ lw_good := mm_wd 2334 (by decide +kernel) (by decide +kernel)
theorem tT_X12_call : mm_T yX12_call cX12_call 3 (some .int) 2 := ⟨wd_2334, wd_170, by decide +kernel, by decide +kernel, by decide +kernel, by decide +kernel⟩
theorem wd_2331 : Cond.methodLink RL 159 yX12_call ∈ lw_good := mm_wd 2331 (by decide +kernel) (by decide +kernel)
theorem wd_2332 : Cond.instanceMethod yX12_call ∈ lw_good := mm_wd 2332 (by decide +kernel) (by decide +kernel)
theorem wd_2333 : Cond.selects RX12 yX12_call yX12_call ∈ lw_good := mm_wd 2333 (by decide +kernel) (by decide +kernel)
theorem tT_L_likes : mm_TW yL_likes cL_likes 5 (some .int) [(0, 10, 13, 19)] 4 := ⟨List.mem_filter.mpr ⟨by decide +kernel, by decide +kernel⟩, wd_141, by decide +kernel, by decide +kernel, by decide +kernel, by decide +kernel⟩
theorem wd_1483 : Cond.methodLink RL 160 yL_likes ∈ lw_good := mm_wd 1483 (by decide +kernel) (by decide +kernel)
theorem wd_1484 : Cond.static yL_likes ∈ lw_good := mm_wd 1484 (by decide +kernel) (by decide +kernel)
theorem wd_2343 : Cond.code yX12_likes cX12_likes 3 (some .int) ∈ lw_good := mm_wd 2343 (by decide +kernel) (by decide +kernel)
theorem tT_X12_likes : mm_T yX12_likes cX12_likes 3 (some .int) 2 := ⟨wd_2343, wd_170, by decide +kernel, by decide +kernel, by decide +kernel, by decide +kernel⟩
theorem wd_2340 : Cond.methodLink RL 162 yX12_likes ∈ lw_good := mm_wd 2340 (by decide +kernel) (by decide +kernel)
theorem wd_2341 : Cond.instanceMethod yX12_likes ∈ lw_good := mm_wd 2341 (by decide +kernel) (by decide +kernel)
theorem wd_2342 : Cond.selects RX12 yX12_likes yX12_likes ∈ lw_good := mm_wd 2342 (by decide +kernel) (by decide +kernel)
theorem tT_L_comesTo : mm_TW yL_comesTo cL_comesTo 5 (some .int) [(0, 10, 13, 19), (0, 10, 17, 13)] 4 := ⟨List.mem_filter.mpr ⟨by decide +kernel, by decide +kernel⟩, wd_141, by decide +kernel, by decide +kernel, by decide +kernel, by decide +kernel⟩
theorem wd_1490 : Cond.methodLink RL 163 yL_comesTo ∈ lw_good := mm_wd 1490 (by decide +kernel) (by decide +kernel)
theorem wd_1491 : Cond.static yL_comesTo ∈ lw_good := mm_wd 1491 (by decide +kernel) (by decide +kernel)
theorem wd_2369 : Cond.code yX12_comesTo cX12_comesTo 3 (some .int) ∈ lw_good := mm_wd 2369 (by decide +kernel) (by decide +kernel)
theorem tT_X12_comesTo : mm_T yX12_comesTo cX12_comesTo 3 (some .int) 2 := ⟨wd_2369, wd_170, by decide +kernel, by decide +kernel, by decide +kernel, by decide +kernel⟩
theorem wd_2366 : Cond.methodLink RL 165 yX12_comesTo ∈ lw_good := mm_wd 2366 (by decide +kernel) (by decide +kernel)
theorem wd_2367 : Cond.instanceMethod yX12_comesTo ∈ lw_good := mm_wd 2367 (by decide +kernel) (by decide +kernel)
theorem wd_2368 : Cond.selects RX12 yX12_comesTo yX12_comesTo ∈ lw_good := mm_wd 2368 (by decide +kernel) (by decide +kernel)
theorem wd_909 : Cond.code yX11_dial cX11_dial 5 (some .int) ∈ lw_good := mm_wd 909 (by decide +kernel) (by decide +kernel)
theorem tT_X11_dial : mm_T yX11_dial cX11_dial 5 (some .int) 3 := ⟨wd_909, wd_142, by decide +kernel, by decide +kernel, by decide +kernel, by decide +kernel⟩
theorem wd_906 : Cond.methodLink RL 166 yX11_dial ∈ lw_good := mm_wd 906 (by decide +kernel) (by decide +kernel)
theorem wd_907 : Cond.instanceMethod yX11_dial ∈ lw_good := mm_wd 907 (by decide +kernel) (by decide +kernel)
theorem wd_908 : Cond.selects RX11 yX11_dial yX11_dial ∈ lw_good := mm_wd 908 (by decide +kernel) (by decide +kernel)
theorem wd_2382 : Cond.code yX12_dial cX12_dial 5 (some .int) ∈ lw_good := mm_wd 2382 (by decide +kernel) (by decide +kernel)
theorem tT_X12_dial : mm_T yX12_dial cX12_dial 5 (some .int) 3 := ⟨wd_2382, wd_170, by decide +kernel, by decide +kernel, by decide +kernel, by decide +kernel⟩
theorem wd_2379 : Cond.methodLink RL 169 yX12_dial ∈ lw_good := mm_wd 2379 (by decide +kernel) (by decide +kernel)
theorem wd_2380 : Cond.instanceMethod yX12_dial ∈ lw_good := mm_wd 2380 (by decide +kernel) (by decide +kernel)
theorem wd_2381 : Cond.selects RX12 yX12_dial yX12_dial ∈ lw_good := mm_wd 2381 (by decide +kernel) (by decide +kernel)
theorem wd_951 : Cond.code yX11_pull cX11_pull 3 (some .int) ∈ lw_good := mm_wd 951 (by decide +kernel) (by decide +kernel)
theorem tT_X11_pull : mm_T yX11_pull cX11_pull 3 (some .int) 1 := ⟨wd_951, wd_142, by decide +kernel, by decide +kernel, by decide +kernel, by decide +kernel⟩
theorem wd_948 : Cond.methodLink RL 170 yX11_pull ∈ lw_good := mm_wd 948 (by decide +kernel) (by decide +kernel)
theorem wd_949 : Cond.instanceMethod yX11_pull ∈ lw_good := mm_wd 949 (by decide +kernel) (by decide +kernel)
theorem wd_950 : Cond.selects RX11 yX11_pull yX11_pull ∈ lw_good := mm_wd 950 (by decide +kernel) (by decide +kernel)
theorem wd_2395 : Cond.code yX12_pull cX12_pull 3 (some .int) ∈ lw_good := mm_wd 2395 (by decide +kernel) (by decide +kernel)
theorem tT_X12_pull : mm_T yX12_pull cX12_pull 3 (some .int) 1 := ⟨wd_2395, wd_170, by decide +kernel, by decide +kernel, by decide +kernel, by decide +kernel⟩
theorem wd_2392 : Cond.methodLink RL 173 yX12_pull ∈ lw_good := mm_wd 2392 (by decide +kernel) (by decide +kernel)
theorem wd_2393 : Cond.instanceMethod yX12_pull ∈ lw_good := mm_wd 2393 (by decide +kernel) (by decide +kernel)
theorem wd_2394 : Cond.selects RX12 yX12_pull yX12_pull ∈ lw_good := mm_wd 2394 (by decide +kernel) (by decide +kernel)
theorem tT_L_door : mm_TW yL_door cL_door 4 (some .int) [(0, 9, 12, 19)] 3 := ⟨List.mem_filter.mpr ⟨by decide +kernel, by decide +kernel⟩, wd_141, by decide +kernel, by decide +kernel, by decide +kernel, by decide +kernel⟩
theorem wd_1498 : Cond.methodLink RL 174 yL_door ∈ lw_good := mm_wd 1498 (by decide +kernel) (by decide +kernel)
theorem wd_1499 : Cond.static yL_door ∈ lw_good := mm_wd 1499 (by decide +kernel) (by decide +kernel)
theorem wd_2403 : Cond.code yX12_door cX12_door 2 (some .int) ∈ lw_good := mm_wd 2403 (by decide +kernel) (by decide +kernel)
theorem tT_X12_door : mm_T yX12_door cX12_door 2 (some .int) 1 := ⟨wd_2403, wd_170, by decide +kernel, by decide +kernel, by decide +kernel, by decide +kernel⟩
theorem wd_2400 : Cond.methodLink RL 176 yX12_door ∈ lw_good := mm_wd 2400 (by decide +kernel) (by decide +kernel)
theorem wd_2401 : Cond.instanceMethod yX12_door ∈ lw_good := mm_wd 2401 (by decide +kernel) (by decide +kernel)
theorem wd_2402 : Cond.selects RX12 yX12_door yX12_door ∈ lw_good := mm_wd 2402 (by decide +kernel) (by decide +kernel)
theorem tT_L_minutes : mm_TW yL_minutes cL_minutes 4 (some .int) [(0, 9, 12, 13)] 3 := ⟨List.mem_filter.mpr ⟨by decide +kernel, by decide +kernel⟩, wd_141, by decide +kernel, by decide +kernel, by decide +kernel, by decide +kernel⟩
theorem wd_1509 : Cond.methodLink RL 177 yL_minutes ∈ lw_good := mm_wd 1509 (by decide +kernel) (by decide +kernel)
theorem wd_1510 : Cond.static yL_minutes ∈ lw_good := mm_wd 1510 (by decide +kernel) (by decide +kernel)
theorem wd_2407 : Cond.code yX12_minutes cX12_minutes 4 (some .int) ∈ lw_good := mm_wd 2407 (by decide +kernel) (by decide +kernel)
theorem tT_X12_minutes : mm_T yX12_minutes cX12_minutes 4 (some .int) 1 := ⟨wd_2407, wd_170, by decide +kernel, by decide +kernel, by decide +kernel, by decide +kernel⟩
theorem wd_2404 : Cond.methodLink RL 179 yX12_minutes ∈ lw_good := mm_wd 2404 (by decide +kernel) (by decide +kernel)
theorem wd_2405 : Cond.instanceMethod yX12_minutes ∈ lw_good := mm_wd 2405 (by decide +kernel) (by decide +kernel)
theorem wd_2406 : Cond.selects RX12 yX12_minutes yX12_minutes ∈ lw_good := mm_wd 2406 (by decide +kernel) (by decide +kernel)
theorem tT_L_undo : mm_TW yL_undo cL_undo 4 (some .int) [(0, 9, 12, 13)] 3 := ⟨List.mem_filter.mpr ⟨by decide +kernel, by decide +kernel⟩, wd_141, by decide +kernel, by decide +kernel, by decide +kernel, by decide +kernel⟩
theorem wd_1516 : Cond.methodLink RL 180 yL_undo ∈ lw_good := mm_wd 1516 (by decide +kernel) (by decide +kernel)
theorem wd_1517 : Cond.static yL_undo ∈ lw_good := mm_wd 1517 (by decide +kernel) (by decide +kernel)
theorem wd_2430 : Cond.code yX12_undo cX12_undo 3 (some .int) ∈ lw_good := mm_wd 2430 (by decide +kernel) (by decide +kernel)
theorem tT_X12_undo : mm_T yX12_undo cX12_undo 3 (some .int) 1 := ⟨wd_2430, wd_170, by decide +kernel, by decide +kernel, by decide +kernel, by decide +kernel⟩
theorem wd_2427 : Cond.methodLink RL 182 yX12_undo ∈ lw_good := mm_wd 2427 (by decide +kernel) (by decide +kernel)
theorem wd_2428 : Cond.instanceMethod yX12_undo ∈ lw_good := mm_wd 2428 (by decide +kernel) (by decide +kernel)
theorem wd_2429 : Cond.selects RX12 yX12_undo yX12_undo ∈ lw_good := mm_wd 2429 (by decide +kernel) (by decide +kernel)
theorem tT_L_judge : mm_TW yL_judge cL_judge 5 (some .int) [(0, 10, 13, 19), (0, 10, 17, 45), (0, 10, 21, 13)] 4 := ⟨List.mem_filter.mpr ⟨by decide +kernel, by decide +kernel⟩, wd_141, by decide +kernel, by decide +kernel, by decide +kernel, by decide +kernel⟩
theorem wd_1533 : Cond.methodLink RL 183 yL_judge ∈ lw_good := mm_wd 1533 (by decide +kernel) (by decide +kernel)
theorem wd_1534 : Cond.static yL_judge ∈ lw_good := mm_wd 1534 (by decide +kernel) (by decide +kernel)
theorem wd_2435 : Cond.code yX12_judge cX12_judge 8 (some .int) ∈ lw_good := mm_wd 2435 (by decide +kernel) (by decide +kernel)
theorem tT_X12_judge : mm_T yX12_judge cX12_judge 8 (some .int) 2 := ⟨wd_2435, wd_170, by decide +kernel, by decide +kernel, by decide +kernel, by decide +kernel⟩
theorem wd_2432 : Cond.methodLink RL 185 yX12_judge ∈ lw_good := mm_wd 2432 (by decide +kernel) (by decide +kernel)
theorem wd_2433 : Cond.instanceMethod yX12_judge ∈ lw_good := mm_wd 2433 (by decide +kernel) (by decide +kernel)
theorem wd_2434 : Cond.selects RX12 yX12_judge yX12_judge ∈ lw_good := mm_wd 2434 (by decide +kernel) (by decide +kernel)
theorem tT_L_perform : mm_TW yL_perform cL_perform 4 (some .int) [(0, 9, 12, 19), (0, 9, 15, 45)] 3 := ⟨List.mem_filter.mpr ⟨by decide +kernel, by decide +kernel⟩, wd_141, by decide +kernel, by decide +kernel, by decide +kernel, by decide +kernel⟩
theorem wd_1596 : Cond.methodLink RL 186 yL_perform ∈ lw_good := mm_wd 1596 (by decide +kernel) (by decide +kernel)
theorem wd_1597 : Cond.static yL_perform ∈ lw_good := mm_wd 1597 (by decide +kernel) (by decide +kernel)
theorem wd_2476 : Cond.code yX12_perform cX12_perform 3 (some .int) ∈ lw_good := mm_wd 2476 (by decide +kernel) (by decide +kernel)
theorem tT_X12_perform : mm_T yX12_perform cX12_perform 3 (some .int) 1 := ⟨wd_2476, wd_170, by decide +kernel, by decide +kernel, by decide +kernel, by decide +kernel⟩
theorem wd_2473 : Cond.methodLink RL 188 yX12_perform ∈ lw_good := mm_wd 2473 (by decide +kernel) (by decide +kernel)
theorem wd_2474 : Cond.instanceMethod yX12_perform ∈ lw_good := mm_wd 2474 (by decide +kernel) (by decide +kernel)
theorem wd_2475 : Cond.selects RX12 yX12_perform yX12_perform ∈ lw_good := mm_wd 2475 (by decide +kernel) (by decide +kernel)
theorem tT_L_spring : mm_TW yL_spring cL_spring 5 (some .int) [(0, 10, 13, 13)] 4 := ⟨List.mem_filter.mpr ⟨by decide +kernel, by decide +kernel⟩, wd_141, by decide +kernel, by decide +kernel, by decide +kernel, by decide +kernel⟩
theorem wd_1607 : Cond.methodLink RL 189 yL_spring ∈ lw_good := mm_wd 1607 (by decide +kernel) (by decide +kernel)
theorem wd_1608 : Cond.static yL_spring ∈ lw_good := mm_wd 1608 (by decide +kernel) (by decide +kernel)
theorem wd_2480 : Cond.code yX12_spring cX12_spring 7 (some .int) ∈ lw_good := mm_wd 2480 (by decide +kernel) (by decide +kernel)
theorem tT_X12_spring : mm_T yX12_spring cX12_spring 7 (some .int) 2 := ⟨wd_2480, wd_170, by decide +kernel, by decide +kernel, by decide +kernel, by decide +kernel⟩
theorem wd_2477 : Cond.methodLink RL 191 yX12_spring ∈ lw_good := mm_wd 2477 (by decide +kernel) (by decide +kernel)
theorem wd_2478 : Cond.instanceMethod yX12_spring ∈ lw_good := mm_wd 2478 (by decide +kernel) (by decide +kernel)
theorem wd_2479 : Cond.selects RX12 yX12_spring yX12_spring ∈ lw_good := mm_wd 2479 (by decide +kernel) (by decide +kernel)
theorem tT_L_lost : mm_TW yL_lost cL_lost 4 (some .int) [(0, 9, 12, 13)] 3 := ⟨List.mem_filter.mpr ⟨by decide +kernel, by decide +kernel⟩, wd_141, by decide +kernel, by decide +kernel, by decide +kernel, by decide +kernel⟩
theorem wd_1621 : Cond.methodLink RL 192 yL_lost ∈ lw_good := mm_wd 1621 (by decide +kernel) (by decide +kernel)
theorem wd_1622 : Cond.static yL_lost ∈ lw_good := mm_wd 1622 (by decide +kernel) (by decide +kernel)
theorem wd_2494 : Cond.code yX12_lost cX12_lost 2 (some .int) ∈ lw_good := mm_wd 2494 (by decide +kernel) (by decide +kernel)
theorem tT_X12_lost : mm_T yX12_lost cX12_lost 2 (some .int) 1 := ⟨wd_2494, wd_170, by decide +kernel, by decide +kernel, by decide +kernel, by decide +kernel⟩
theorem wd_2491 : Cond.methodLink RL 194 yX12_lost ∈ lw_good := mm_wd 2491 (by decide +kernel) (by decide +kernel)
theorem wd_2492 : Cond.instanceMethod yX12_lost ∈ lw_good := mm_wd 2492 (by decide +kernel) (by decide +kernel)
theorem wd_2493 : Cond.selects RX12 yX12_lost yX12_lost ∈ lw_good := mm_wd 2493 (by decide +kernel) (by decide +kernel)
theorem wd_971 : Cond.code yX11_firstLost cX11_firstLost 4 (some .int) ∈ lw_good := mm_wd 971 (by decide +kernel) (by decide +kernel)
theorem tT_X11_firstLost : mm_T yX11_firstLost cX11_firstLost 4 (some .int) 0 := ⟨wd_971, wd_142, by decide +kernel, by decide +kernel, by decide +kernel, by decide +kernel⟩
theorem wd_968 : Cond.methodLink RL 195 yX11_firstLost ∈ lw_good := mm_wd 968 (by decide +kernel) (by decide +kernel)
theorem wd_969 : Cond.instanceMethod yX11_firstLost ∈ lw_good := mm_wd 969 (by decide +kernel) (by decide +kernel)
theorem wd_970 : Cond.selects RX11 yX11_firstLost yX11_firstLost ∈ lw_good := mm_wd 970 (by decide +kernel) (by decide +kernel)
theorem wd_2509 : Cond.code yX12_firstLost cX12_firstLost 2 (some .int) ∈ lw_good := mm_wd 2509 (by decide +kernel) (by decide +kernel)
theorem tT_X12_firstLost : mm_T yX12_firstLost cX12_firstLost 2 (some .int) 0 := ⟨wd_2509, wd_170, by decide +kernel, by decide +kernel, by decide +kernel, by decide +kernel⟩
theorem wd_2506 : Cond.methodLink RL 198 yX12_firstLost ∈ lw_good := mm_wd 2506 (by decide +kernel) (by decide +kernel)
theorem wd_2507 : Cond.instanceMethod yX12_firstLost ∈ lw_good := mm_wd 2507 (by decide +kernel) (by decide +kernel)
theorem wd_2508 : Cond.selects RX12 yX12_firstLost yX12_firstLost ∈ lw_good := mm_wd 2508 (by decide +kernel) (by decide +kernel)
theorem tT_L_together : mm_TW yL_together cL_together 5 (some .int) [(0, 10, 13, 19), (0, 10, 17, 13)] 4 := ⟨List.mem_filter.mpr ⟨by decide +kernel, by decide +kernel⟩, wd_141, by decide +kernel, by decide +kernel, by decide +kernel, by decide +kernel⟩
theorem wd_1631 : Cond.methodLink RL 199 yL_together ∈ lw_good := mm_wd 1631 (by decide +kernel) (by decide +kernel)
theorem wd_1632 : Cond.static yL_together ∈ lw_good := mm_wd 1632 (by decide +kernel) (by decide +kernel)
theorem wd_2516 : Cond.code yX12_together cX12_together 5 (some .int) ∈ lw_good := mm_wd 2516 (by decide +kernel) (by decide +kernel)
theorem tT_X12_together : mm_T yX12_together cX12_together 5 (some .int) 2 := ⟨wd_2516, wd_170, by decide +kernel, by decide +kernel, by decide +kernel, by decide +kernel⟩
theorem wd_2513 : Cond.methodLink RL 201 yX12_together ∈ lw_good := mm_wd 2513 (by decide +kernel) (by decide +kernel)
theorem wd_2514 : Cond.instanceMethod yX12_together ∈ lw_good := mm_wd 2514 (by decide +kernel) (by decide +kernel)
theorem wd_2515 : Cond.selects RX12 yX12_together yX12_together ∈ lw_good := mm_wd 2515 (by decide +kernel) (by decide +kernel)
theorem tT_L_weddings : mm_TW yL_weddings cL_weddings 4 (some .int) [(0, 9, 12, 13)] 3 := ⟨List.mem_filter.mpr ⟨by decide +kernel, by decide +kernel⟩, wd_141, by decide +kernel, by decide +kernel, by decide +kernel, by decide +kernel⟩
theorem wd_1644 : Cond.methodLink RL 202 yL_weddings ∈ lw_good := mm_wd 1644 (by decide +kernel) (by decide +kernel)
theorem wd_1645 : Cond.static yL_weddings ∈ lw_good := mm_wd 1645 (by decide +kernel) (by decide +kernel)
theorem wd_2524 : Cond.code yX12_weddings cX12_weddings 3 (some .int) ∈ lw_good := mm_wd 2524 (by decide +kernel) (by decide +kernel)
theorem tT_X12_weddings : mm_T yX12_weddings cX12_weddings 3 (some .int) 1 := ⟨wd_2524, wd_170, by decide +kernel, by decide +kernel, by decide +kernel, by decide +kernel⟩
theorem wd_2521 : Cond.methodLink RL 204 yX12_weddings ∈ lw_good := mm_wd 2521 (by decide +kernel) (by decide +kernel)
theorem wd_2522 : Cond.instanceMethod yX12_weddings ∈ lw_good := mm_wd 2522 (by decide +kernel) (by decide +kernel)
theorem wd_2523 : Cond.selects RX12 yX12_weddings yX12_weddings ∈ lw_good := mm_wd 2523 (by decide +kernel) (by decide +kernel)
theorem tT_L_busiest : mm_TW yL_busiest cL_busiest 4 (some .int) [(0, 9, 12, 13)] 3 := ⟨List.mem_filter.mpr ⟨by decide +kernel, by decide +kernel⟩, wd_141, by decide +kernel, by decide +kernel, by decide +kernel, by decide +kernel⟩
theorem wd_1651 : Cond.methodLink RL 205 yL_busiest ∈ lw_good := mm_wd 1651 (by decide +kernel) (by decide +kernel)
theorem wd_1652 : Cond.static yL_busiest ∈ lw_good := mm_wd 1652 (by decide +kernel) (by decide +kernel)
theorem wd_2528 : Cond.code yX12_busiest cX12_busiest 6 (some .int) ∈ lw_good := mm_wd 2528 (by decide +kernel) (by decide +kernel)
theorem tT_X12_busiest : mm_T yX12_busiest cX12_busiest 6 (some .int) 1 := ⟨wd_2528, wd_170, by decide +kernel, by decide +kernel, by decide +kernel, by decide +kernel⟩
theorem wd_2525 : Cond.methodLink RL 207 yX12_busiest ∈ lw_good := mm_wd 2525 (by decide +kernel) (by decide +kernel)
theorem wd_2526 : Cond.instanceMethod yX12_busiest ∈ lw_good := mm_wd 2526 (by decide +kernel) (by decide +kernel)
theorem wd_2527 : Cond.selects RX12 yX12_busiest yX12_busiest ∈ lw_good := mm_wd 2527 (by decide +kernel) (by decide +kernel)
theorem tT_L_hog : mm_TW yL_hog cL_hog 4 (some .int) [(0, 9, 12, 13)] 3 := ⟨List.mem_filter.mpr ⟨by decide +kernel, by decide +kernel⟩, wd_141, by decide +kernel, by decide +kernel, by decide +kernel, by decide +kernel⟩
theorem wd_1668 : Cond.methodLink RL 208 yL_hog ∈ lw_good := mm_wd 1668 (by decide +kernel) (by decide +kernel)
theorem wd_1669 : Cond.static yL_hog ∈ lw_good := mm_wd 1669 (by decide +kernel) (by decide +kernel)
theorem wd_2532 : Cond.code yX12_hog cX12_hog 7 (some .int) ∈ lw_good := mm_wd 2532 (by decide +kernel) (by decide +kernel)
theorem tT_X12_hog : mm_T yX12_hog cX12_hog 7 (some .int) 1 := ⟨wd_2532, wd_170, by decide +kernel, by decide +kernel, by decide +kernel, by decide +kernel⟩
theorem wd_2529 : Cond.methodLink RL 210 yX12_hog ∈ lw_good := mm_wd 2529 (by decide +kernel) (by decide +kernel)
theorem wd_2530 : Cond.instanceMethod yX12_hog ∈ lw_good := mm_wd 2530 (by decide +kernel) (by decide +kernel)
theorem wd_2531 : Cond.selects RX12 yX12_hog yX12_hog ∈ lw_good := mm_wd 2531 (by decide +kernel) (by decide +kernel)
theorem tT_L_best : mm_TW yL_best cL_best 4 (some .int) [(0, 9, 12, 13)] 3 := ⟨List.mem_filter.mpr ⟨by decide +kernel, by decide +kernel⟩, wd_141, by decide +kernel, by decide +kernel, by decide +kernel, by decide +kernel⟩
theorem wd_1680 : Cond.methodLink RL 211 yL_best ∈ lw_good := mm_wd 1680 (by decide +kernel) (by decide +kernel)
theorem wd_1681 : Cond.static yL_best ∈ lw_good := mm_wd 1681 (by decide +kernel) (by decide +kernel)
theorem wd_2537 : Cond.code yX12_best cX12_best 2 (some .int) ∈ lw_good := mm_wd 2537 (by decide +kernel) (by decide +kernel)
theorem tT_X12_best : mm_T yX12_best cX12_best 2 (some .int) 1 := ⟨wd_2537, wd_170, by decide +kernel, by decide +kernel, by decide +kernel, by decide +kernel⟩
theorem wd_2534 : Cond.methodLink RL 213 yX12_best ∈ lw_good := mm_wd 2534 (by decide +kernel) (by decide +kernel)
theorem wd_2535 : Cond.instanceMethod yX12_best ∈ lw_good := mm_wd 2535 (by decide +kernel) (by decide +kernel)
theorem wd_2536 : Cond.selects RX12 yX12_best yX12_best ∈ lw_good := mm_wd 2536 (by decide +kernel) (by decide +kernel)
theorem tT_L_bestBy : mm_TW yL_bestBy cL_bestBy 4 (some .int) [(0, 9, 12, 13)] 3 := ⟨List.mem_filter.mpr ⟨by decide +kernel, by decide +kernel⟩, wd_141, by decide +kernel, by decide +kernel, by decide +kernel, by decide +kernel⟩
theorem wd_1736 : Cond.methodLink RL 214 yL_bestBy ∈ lw_good := mm_wd 1736 (by decide +kernel) (by decide +kernel)
theorem wd_1737 : Cond.static yL_bestBy ∈ lw_good := mm_wd 1737 (by decide +kernel) (by decide +kernel)
theorem wd_2561 : Cond.code yX12_bestBy cX12_bestBy 2 (some .int) ∈ lw_good := mm_wd 2561 (by decide +kernel) (by decide +kernel)
theorem tT_X12_bestBy : mm_T yX12_bestBy cX12_bestBy 2 (some .int) 1 := ⟨wd_2561, wd_170, by decide +kernel, by decide +kernel, by decide +kernel, by decide +kernel⟩
theorem wd_2558 : Cond.methodLink RL 216 yX12_bestBy ∈ lw_good := mm_wd 2558 (by decide +kernel) (by decide +kernel)
theorem wd_2559 : Cond.instanceMethod yX12_bestBy ∈ lw_good := mm_wd 2559 (by decide +kernel) (by decide +kernel)
theorem wd_2560 : Cond.selects RX12 yX12_bestBy yX12_bestBy ∈ lw_good := mm_wd 2560 (by decide +kernel) (by decide +kernel)
theorem wd_1081 : Cond.code yX11_enough cX11_enough 5 (some .int) ∈ lw_good := mm_wd 1081 (by decide +kernel) (by decide +kernel)
theorem tT_X11_enough : mm_T yX11_enough cX11_enough 5 (some .int) 0 := ⟨wd_1081, wd_142, by decide +kernel, by decide +kernel, by decide +kernel, by decide +kernel⟩
theorem wd_1078 : Cond.methodLink RL 217 yX11_enough ∈ lw_good := mm_wd 1078 (by decide +kernel) (by decide +kernel)
theorem wd_1079 : Cond.instanceMethod yX11_enough ∈ lw_good := mm_wd 1079 (by decide +kernel) (by decide +kernel)
theorem wd_1080 : Cond.selects RX11 yX11_enough yX11_enough ∈ lw_good := mm_wd 1080 (by decide +kernel) (by decide +kernel)
theorem wd_2565 : Cond.code yX12_enough cX12_enough 3 (some .int) ∈ lw_good := mm_wd 2565 (by decide +kernel) (by decide +kernel)
theorem tT_X12_enough : mm_T yX12_enough cX12_enough 3 (some .int) 0 := ⟨wd_2565, wd_170, by decide +kernel, by decide +kernel, by decide +kernel, by decide +kernel⟩
theorem wd_2562 : Cond.methodLink RL 220 yX12_enough ∈ lw_good := mm_wd 2562 (by decide +kernel) (by decide +kernel)
theorem wd_2563 : Cond.instanceMethod yX12_enough ∈ lw_good := mm_wd 2563 (by decide +kernel) (by decide +kernel)
theorem wd_2564 : Cond.selects RX12 yX12_enough yX12_enough ∈ lw_good := mm_wd 2564 (by decide +kernel) (by decide +kernel)
theorem tT_L_atOnce : mm_TW yL_atOnce cL_atOnce 4 (some .int) [(0, 16, 19, 19), (0, 16, 22, 45), (0, 16, 25, 13)] 3 := ⟨List.mem_filter.mpr ⟨by decide +kernel, by decide +kernel⟩, wd_141, by decide +kernel, by decide +kernel, by decide +kernel, by decide +kernel⟩
theorem wd_1748 : Cond.methodLink RL 221 yL_atOnce ∈ lw_good := mm_wd 1748 (by decide +kernel) (by decide +kernel)
theorem wd_1749 : Cond.static yL_atOnce ∈ lw_good := mm_wd 1749 (by decide +kernel) (by decide +kernel)
theorem wd_2577 : Cond.code yX12_atOnce cX12_atOnce 4 (some .boolean) ∈ lw_good := mm_wd 2577 (by decide +kernel) (by decide +kernel)
theorem tT_X12_atOnce : mm_T yX12_atOnce cX12_atOnce 4 (some .boolean) 1 := ⟨wd_2577, wd_170, by decide +kernel, by decide +kernel, by decide +kernel, by decide +kernel⟩
theorem wd_2574 : Cond.methodLink RL 223 yX12_atOnce ∈ lw_good := mm_wd 2574 (by decide +kernel) (by decide +kernel)
theorem wd_2575 : Cond.instanceMethod yX12_atOnce ∈ lw_good := mm_wd 2575 (by decide +kernel) (by decide +kernel)
theorem wd_2576 : Cond.selects RX12 yX12_atOnce yX12_atOnce ∈ lw_good := mm_wd 2576 (by decide +kernel) (by decide +kernel)
theorem tT_L_crossed : mm_TW yL_crossed cL_crossed 5 (some .int) [(0, 10, 13, 19), (0, 10, 17, 45), (0, 10, 21, 13)] 4 := ⟨List.mem_filter.mpr ⟨by decide +kernel, by decide +kernel⟩, wd_141, by decide +kernel, by decide +kernel, by decide +kernel, by decide +kernel⟩
theorem wd_1770 : Cond.methodLink RL 224 yL_crossed ∈ lw_good := mm_wd 1770 (by decide +kernel) (by decide +kernel)
theorem wd_1771 : Cond.static yL_crossed ∈ lw_good := mm_wd 1771 (by decide +kernel) (by decide +kernel)
theorem wd_2593 : Cond.code yX12_crossed cX12_crossed 3 (some .int) ∈ lw_good := mm_wd 2593 (by decide +kernel) (by decide +kernel)
theorem tT_X12_crossed : mm_T yX12_crossed cX12_crossed 3 (some .int) 2 := ⟨wd_2593, wd_170, by decide +kernel, by decide +kernel, by decide +kernel, by decide +kernel⟩
theorem wd_2590 : Cond.methodLink RL 226 yX12_crossed ∈ lw_good := mm_wd 2590 (by decide +kernel) (by decide +kernel)
theorem wd_2591 : Cond.instanceMethod yX12_crossed ∈ lw_good := mm_wd 2591 (by decide +kernel) (by decide +kernel)
theorem wd_2592 : Cond.selects RX12 yX12_crossed yX12_crossed ∈ lw_good := mm_wd 2592 (by decide +kernel) (by decide +kernel)
theorem tT_L_crossings : mm_TW yL_crossings cL_crossings 4 (some .int) [(0, 9, 12, 19), (0, 9, 15, 45), (0, 9, 18, 13)] 3 := ⟨List.mem_filter.mpr ⟨by decide +kernel, by decide +kernel⟩, wd_141, by decide +kernel, by decide +kernel, by decide +kernel, by decide +kernel⟩
theorem wd_1817 : Cond.methodLink RL 227 yL_crossings ∈ lw_good := mm_wd 1817 (by decide +kernel) (by decide +kernel)
theorem wd_1818 : Cond.static yL_crossings ∈ lw_good := mm_wd 1818 (by decide +kernel) (by decide +kernel)
theorem wd_2605 : Cond.code yX12_crossings cX12_crossings 2 (some .int) ∈ lw_good := mm_wd 2605 (by decide +kernel) (by decide +kernel)
theorem tT_X12_crossings : mm_T yX12_crossings cX12_crossings 2 (some .int) 1 := ⟨wd_2605, wd_170, by decide +kernel, by decide +kernel, by decide +kernel, by decide +kernel⟩
theorem wd_2602 : Cond.methodLink RL 229 yX12_crossings ∈ lw_good := mm_wd 2602 (by decide +kernel) (by decide +kernel)
theorem wd_2603 : Cond.instanceMethod yX12_crossings ∈ lw_good := mm_wd 2603 (by decide +kernel) (by decide +kernel)
theorem wd_2604 : Cond.selects RX12 yX12_crossings yX12_crossings ∈ lw_good := mm_wd 2604 (by decide +kernel) (by decide +kernel)
theorem wd_1096 : Cond.code yX11_stable cX11_stable 1 (some .int) ∈ lw_good := mm_wd 1096 (by decide +kernel) (by decide +kernel)
theorem tT_X11_stable : mm_T yX11_stable cX11_stable 1 (some .int) 0 := ⟨wd_1096, wd_142, by decide +kernel, by decide +kernel, by decide +kernel, by decide +kernel⟩
theorem wd_1093 : Cond.methodLink RL 230 yX11_stable ∈ lw_good := mm_wd 1093 (by decide +kernel) (by decide +kernel)
theorem wd_1094 : Cond.instanceMethod yX11_stable ∈ lw_good := mm_wd 1094 (by decide +kernel) (by decide +kernel)
theorem wd_1095 : Cond.selects RX11 yX11_stable yX11_stable ∈ lw_good := mm_wd 1095 (by decide +kernel) (by decide +kernel)
theorem wd_2609 : Cond.code yX12_stable cX12_stable 1 (some .int) ∈ lw_good := mm_wd 2609 (by decide +kernel) (by decide +kernel)
theorem tT_X12_stable : mm_T yX12_stable cX12_stable 1 (some .int) 0 := ⟨wd_2609, wd_170, by decide +kernel, by decide +kernel, by decide +kernel, by decide +kernel⟩
theorem wd_2606 : Cond.methodLink RL 233 yX12_stable ∈ lw_good := mm_wd 2606 (by decide +kernel) (by decide +kernel)
theorem wd_2607 : Cond.instanceMethod yX12_stable ∈ lw_good := mm_wd 2607 (by decide +kernel) (by decide +kernel)
theorem wd_2608 : Cond.selects RX12 yX12_stable yX12_stable ∈ lw_good := mm_wd 2608 (by decide +kernel) (by decide +kernel)
theorem tT_L_partner : mm_TW yL_partner cL_partner 4 (some .int) [(0, 9, 12, 19)] 3 := ⟨List.mem_filter.mpr ⟨by decide +kernel, by decide +kernel⟩, wd_141, by decide +kernel, by decide +kernel, by decide +kernel, by decide +kernel⟩
theorem wd_1828 : Cond.methodLink RL 234 yL_partner ∈ lw_good := mm_wd 1828 (by decide +kernel) (by decide +kernel)
theorem wd_1829 : Cond.static yL_partner ∈ lw_good := mm_wd 1829 (by decide +kernel) (by decide +kernel)
theorem wd_2642 : Cond.code yX12_partner cX12_partner 2 (some .int) ∈ lw_good := mm_wd 2642 (by decide +kernel) (by decide +kernel)
theorem tT_X12_partner : mm_T yX12_partner cX12_partner 2 (some .int) 1 := ⟨wd_2642, wd_170, by decide +kernel, by decide +kernel, by decide +kernel, by decide +kernel⟩
theorem wd_2639 : Cond.methodLink RL 236 yX12_partner ∈ lw_good := mm_wd 2639 (by decide +kernel) (by decide +kernel)
theorem wd_2640 : Cond.instanceMethod yX12_partner ∈ lw_good := mm_wd 2640 (by decide +kernel) (by decide +kernel)
theorem wd_2641 : Cond.selects RX12 yX12_partner yX12_partner ∈ lw_good := mm_wd 2641 (by decide +kernel) (by decide +kernel)
theorem wd_1125 : Cond.code yX11_leave cX11_leave 2 (some .int) ∈ lw_good := mm_wd 1125 (by decide +kernel) (by decide +kernel)
theorem tT_X11_leave : mm_T yX11_leave cX11_leave 2 (some .int) 0 := ⟨wd_1125, wd_142, by decide +kernel, by decide +kernel, by decide +kernel, by decide +kernel⟩
theorem wd_1122 : Cond.methodLink RL 237 yX11_leave ∈ lw_good := mm_wd 1122 (by decide +kernel) (by decide +kernel)
theorem wd_1123 : Cond.instanceMethod yX11_leave ∈ lw_good := mm_wd 1123 (by decide +kernel) (by decide +kernel)
theorem wd_1124 : Cond.selects RX11 yX11_leave yX11_leave ∈ lw_good := mm_wd 1124 (by decide +kernel) (by decide +kernel)
theorem wd_2646 : Cond.code yX12_leave cX12_leave 2 (some .int) ∈ lw_good := mm_wd 2646 (by decide +kernel) (by decide +kernel)
theorem tT_X12_leave : mm_T yX12_leave cX12_leave 2 (some .int) 0 := ⟨wd_2646, wd_170, by decide +kernel, by decide +kernel, by decide +kernel, by decide +kernel⟩
theorem wd_2643 : Cond.methodLink RL 240 yX12_leave ∈ lw_good := mm_wd 2643 (by decide +kernel) (by decide +kernel)
theorem wd_2644 : Cond.instanceMethod yX12_leave ∈ lw_good := mm_wd 2644 (by decide +kernel) (by decide +kernel)
theorem wd_2645 : Cond.selects RX12 yX12_leave yX12_leave ∈ lw_good := mm_wd 2645 (by decide +kernel) (by decide +kernel)
theorem wd_1131 : Cond.code yX11_darlings cX11_darlings 7 (some .int) ∈ lw_good := mm_wd 1131 (by decide +kernel) (by decide +kernel)
theorem tT_X11_darlings : mm_T yX11_darlings cX11_darlings 7 (some .int) 0 := ⟨wd_1131, wd_142, by decide +kernel, by decide +kernel, by decide +kernel, by decide +kernel⟩
theorem wd_1128 : Cond.methodLink RL 241 yX11_darlings ∈ lw_good := mm_wd 1128 (by decide +kernel) (by decide +kernel)
theorem wd_1129 : Cond.instanceMethod yX11_darlings ∈ lw_good := mm_wd 1129 (by decide +kernel) (by decide +kernel)
theorem wd_1130 : Cond.selects RX11 yX11_darlings yX11_darlings ∈ lw_good := mm_wd 1130 (by decide +kernel) (by decide +kernel)
theorem wd_2650 : Cond.code yX12_darlings cX12_darlings 4 (some .int) ∈ lw_good := mm_wd 2650 (by decide +kernel) (by decide +kernel)
theorem tT_X12_darlings : mm_T yX12_darlings cX12_darlings 4 (some .int) 0 := ⟨wd_2650, wd_170, by decide +kernel, by decide +kernel, by decide +kernel, by decide +kernel⟩
theorem wd_2647 : Cond.methodLink RL 244 yX12_darlings ∈ lw_good := mm_wd 2647 (by decide +kernel) (by decide +kernel)
theorem wd_2648 : Cond.instanceMethod yX12_darlings ∈ lw_good := mm_wd 2648 (by decide +kernel) (by decide +kernel)
theorem wd_2649 : Cond.selects RX12 yX12_darlings yX12_darlings ∈ lw_good := mm_wd 2649 (by decide +kernel) (by decide +kernel)
theorem tT_L_happiest : mm_TW yL_happiest cL_happiest 4 (some .int) [(0, 9, 12, 13)] 3 := ⟨List.mem_filter.mpr ⟨by decide +kernel, by decide +kernel⟩, wd_141, by decide +kernel, by decide +kernel, by decide +kernel, by decide +kernel⟩
theorem wd_1839 : Cond.methodLink RL 245 yL_happiest ∈ lw_good := mm_wd 1839 (by decide +kernel) (by decide +kernel)
theorem wd_1840 : Cond.static yL_happiest ∈ lw_good := mm_wd 1840 (by decide +kernel) (by decide +kernel)
theorem wd_2654 : Cond.code yX12_happiest cX12_happiest 2 (some .int) ∈ lw_good := mm_wd 2654 (by decide +kernel) (by decide +kernel)
theorem tT_X12_happiest : mm_T yX12_happiest cX12_happiest 2 (some .int) 1 := ⟨wd_2654, wd_170, by decide +kernel, by decide +kernel, by decide +kernel, by decide +kernel⟩
theorem wd_2651 : Cond.methodLink RL 247 yX12_happiest ∈ lw_good := mm_wd 2651 (by decide +kernel) (by decide +kernel)
theorem wd_2652 : Cond.instanceMethod yX12_happiest ∈ lw_good := mm_wd 2652 (by decide +kernel) (by decide +kernel)
theorem wd_2653 : Cond.selects RX12 yX12_happiest yX12_happiest ∈ lw_good := mm_wd 2653 (by decide +kernel) (by decide +kernel)
theorem tT_L_loss : mm_TW yL_loss cL_loss 7 (some .int) [(0, 13, 16, 13)] 6 := ⟨List.mem_filter.mpr ⟨by decide +kernel, by decide +kernel⟩, wd_141, by decide +kernel, by decide +kernel, by decide +kernel, by decide +kernel⟩
theorem wd_1854 : Cond.methodLink RL 248 yL_loss ∈ lw_good := mm_wd 1854 (by decide +kernel) (by decide +kernel)
theorem wd_1855 : Cond.static yL_loss ∈ lw_good := mm_wd 1855 (by decide +kernel) (by decide +kernel)
theorem wd_2659 : Cond.code yX12_loss cX12_loss 5 (some .long) ∈ lw_good := mm_wd 2659 (by decide +kernel) (by decide +kernel)
theorem tT_X12_loss : mm_T yX12_loss cX12_loss 5 (some .long) 4 := ⟨wd_2659, wd_170, by decide +kernel, by decide +kernel, by decide +kernel, by decide +kernel⟩
theorem wd_2656 : Cond.methodLink RL 251 yX12_loss ∈ lw_good := mm_wd 2656 (by decide +kernel) (by decide +kernel)
theorem wd_2657 : Cond.instanceMethod yX12_loss ∈ lw_good := mm_wd 2657 (by decide +kernel) (by decide +kernel)
theorem wd_2658 : Cond.selects RX12 yX12_loss yX12_loss ∈ lw_good := mm_wd 2658 (by decide +kernel) (by decide +kernel)
theorem tT_L_fewest : mm_TW yL_fewest cL_fewest 6 (some .int) [(0, 12, 15, 13)] 5 := ⟨List.mem_filter.mpr ⟨by decide +kernel, by decide +kernel⟩, wd_141, by decide +kernel, by decide +kernel, by decide +kernel, by decide +kernel⟩
theorem wd_1867 : Cond.methodLink RL 252 yL_fewest ∈ lw_good := mm_wd 1867 (by decide +kernel) (by decide +kernel)
theorem wd_1868 : Cond.static yL_fewest ∈ lw_good := mm_wd 1868 (by decide +kernel) (by decide +kernel)
theorem wd_2675 : Cond.code yX12_fewest cX12_fewest 5 (some .int) ∈ lw_good := mm_wd 2675 (by decide +kernel) (by decide +kernel)
theorem tT_X12_fewest : mm_T yX12_fewest cX12_fewest 5 (some .int) 3 := ⟨wd_2675, wd_170, by decide +kernel, by decide +kernel, by decide +kernel, by decide +kernel⟩
theorem wd_2672 : Cond.methodLink RL 255 yX12_fewest ∈ lw_good := mm_wd 2672 (by decide +kernel) (by decide +kernel)
theorem wd_2673 : Cond.instanceMethod yX12_fewest ∈ lw_good := mm_wd 2673 (by decide +kernel) (by decide +kernel)
theorem wd_2674 : Cond.selects RX12 yX12_fewest yX12_fewest ∈ lw_good := mm_wd 2674 (by decide +kernel) (by decide +kernel)
theorem tT_L_rules : mm_TW yL_rules cL_rules 4 (some .int) [(0, 9, 12, 19), (0, 9, 15, 45), (0, 9, 18, 13)] 3 := ⟨List.mem_filter.mpr ⟨by decide +kernel, by decide +kernel⟩, wd_141, by decide +kernel, by decide +kernel, by decide +kernel, by decide +kernel⟩
theorem wd_1874 : Cond.methodLink RL 256 yL_rules ∈ lw_good := mm_wd 1874 (by decide +kernel) (by decide +kernel)
theorem wd_1875 : Cond.static yL_rules ∈ lw_good := mm_wd 1875 (by decide +kernel) (by decide +kernel)
theorem wd_2679 : Cond.code yX12_rules cX12_rules 2 (some .int) ∈ lw_good := mm_wd 2679 (by decide +kernel) (by decide +kernel)
theorem tT_X12_rules : mm_T yX12_rules cX12_rules 2 (some .int) 1 := ⟨wd_2679, wd_170, by decide +kernel, by decide +kernel, by decide +kernel, by decide +kernel⟩
theorem wd_2676 : Cond.methodLink RL 258 yX12_rules ∈ lw_good := mm_wd 2676 (by decide +kernel) (by decide +kernel)
theorem wd_2677 : Cond.instanceMethod yX12_rules ∈ lw_good := mm_wd 2677 (by decide +kernel) (by decide +kernel)
theorem wd_2678 : Cond.selects RX12 yX12_rules yX12_rules ∈ lw_good := mm_wd 2678 (by decide +kernel) (by decide +kernel)
theorem tT_L_rule : mm_TW yL_rule cL_rule 5 (some .int) [(0, 10, 13, 19), (0, 10, 17, 45), (0, 10, 21, 13)] 4 := ⟨List.mem_filter.mpr ⟨by decide +kernel, by decide +kernel⟩, wd_141, by decide +kernel, by decide +kernel, by decide +kernel, by decide +kernel⟩
theorem wd_1894 : Cond.methodLink RL 259 yL_rule ∈ lw_good := mm_wd 1894 (by decide +kernel) (by decide +kernel)
theorem wd_1895 : Cond.static yL_rule ∈ lw_good := mm_wd 1895 (by decide +kernel) (by decide +kernel)
theorem wd_2696 : Cond.code yX12_rule cX12_rule 3 (some .int) ∈ lw_good := mm_wd 2696 (by decide +kernel) (by decide +kernel)
theorem tT_X12_rule : mm_T yX12_rule cX12_rule 3 (some .int) 2 := ⟨wd_2696, wd_170, by decide +kernel, by decide +kernel, by decide +kernel, by decide +kernel⟩
theorem wd_2693 : Cond.methodLink RL 261 yX12_rule ∈ lw_good := mm_wd 2693 (by decide +kernel) (by decide +kernel)
theorem wd_2694 : Cond.instanceMethod yX12_rule ∈ lw_good := mm_wd 2694 (by decide +kernel) (by decide +kernel)
theorem wd_2695 : Cond.selects RX12 yX12_rule yX12_rule ∈ lw_good := mm_wd 2695 (by decide +kernel) (by decide +kernel)
theorem tT_L_ask : mm_TW yL_ask cL_ask 4 (some .int) [(0, 9, 12, 19), (0, 9, 15, 45), (0, 9, 18, 13)] 3 := ⟨List.mem_filter.mpr ⟨by decide +kernel, by decide +kernel⟩, wd_141, by decide +kernel, by decide +kernel, by decide +kernel, by decide +kernel⟩
theorem wd_1902 : Cond.methodLink RL 262 yL_ask ∈ lw_good := mm_wd 1902 (by decide +kernel) (by decide +kernel)
theorem wd_1903 : Cond.static yL_ask ∈ lw_good := mm_wd 1903 (by decide +kernel) (by decide +kernel)
theorem wd_2700 : Cond.code yX12_ask cX12_ask 6 (some .int) ∈ lw_good := mm_wd 2700 (by decide +kernel) (by decide +kernel)
theorem tT_X12_ask : mm_T yX12_ask cX12_ask 6 (some .int) 1 := ⟨wd_2700, wd_170, by decide +kernel, by decide +kernel, by decide +kernel, by decide +kernel⟩
theorem wd_2697 : Cond.methodLink RL 264 yX12_ask ∈ lw_good := mm_wd 2697 (by decide +kernel) (by decide +kernel)
theorem wd_2698 : Cond.instanceMethod yX12_ask ∈ lw_good := mm_wd 2698 (by decide +kernel) (by decide +kernel)
theorem wd_2699 : Cond.selects RX12 yX12_ask yX12_ask ∈ lw_good := mm_wd 2699 (by decide +kernel) (by decide +kernel)
theorem tT_L_tray : mm_TW yL_tray cL_tray 5 (some .int) [(0, 7, 10, 19), (0, 7, 14, 13)] 4 := ⟨List.mem_filter.mpr ⟨by decide +kernel, by decide +kernel⟩, wd_141, by decide +kernel, by decide +kernel, by decide +kernel, by decide +kernel⟩
theorem wd_1915 : Cond.methodLink RL 265 yL_tray ∈ lw_good := mm_wd 1915 (by decide +kernel) (by decide +kernel)
theorem wd_1916 : Cond.static yL_tray ∈ lw_good := mm_wd 1916 (by decide +kernel) (by decide +kernel)
theorem wd_2709 : Cond.code yX12_tray cX12_tray 5 none ∈ lw_good := mm_wd 2709 (by decide +kernel) (by decide +kernel)
theorem tT_X12_tray : mm_T yX12_tray cX12_tray 5 none 3 := ⟨wd_2709, wd_170, by decide +kernel, by decide +kernel, by decide +kernel, by decide +kernel⟩
theorem wd_2706 : Cond.methodLink RL 268 yX12_tray ∈ lw_good := mm_wd 2706 (by decide +kernel) (by decide +kernel)
theorem wd_2707 : Cond.instanceMethod yX12_tray ∈ lw_good := mm_wd 2707 (by decide +kernel) (by decide +kernel)
theorem wd_2708 : Cond.selects RX12 yX12_tray yX12_tray ∈ lw_good := mm_wd 2708 (by decide +kernel) (by decide +kernel)
theorem wd_2734 : Cond.constantLong RL 269 (4294967295 : Int64) ∈ lw_good := mm_wd 2734 (by decide +kernel) (by decide +kernel)
theorem tT_L_write : mm_TW yL_write cL_write 7 (some .int) [(0, 11, 14, 19), (0, 11, 18, 45), (0, 11, 22, 115)] 5 := ⟨List.mem_filter.mpr ⟨by decide +kernel, by decide +kernel⟩, wd_141, by decide +kernel, by decide +kernel, by decide +kernel, by decide +kernel⟩
theorem wd_1930 : Cond.methodLink RL 271 yL_write ∈ lw_good := mm_wd 1930 (by decide +kernel) (by decide +kernel)
theorem wd_1931 : Cond.static yL_write ∈ lw_good := mm_wd 1931 (by decide +kernel) (by decide +kernel)
theorem wd_2713 : Cond.code yX12_write cX12_write 5 (some .long) ∈ lw_good := mm_wd 2713 (by decide +kernel) (by decide +kernel)
theorem tT_X12_write : mm_T yX12_write cX12_write 5 (some .long) 3 := ⟨wd_2713, wd_170, by decide +kernel, by decide +kernel, by decide +kernel, by decide +kernel⟩
theorem wd_2710 : Cond.methodLink RL 274 yX12_write ∈ lw_good := mm_wd 2710 (by decide +kernel) (by decide +kernel)
theorem wd_2711 : Cond.instanceMethod yX12_write ∈ lw_good := mm_wd 2711 (by decide +kernel) (by decide +kernel)
theorem wd_2712 : Cond.selects RX12 yX12_write yX12_write ∈ lw_good := mm_wd 2712 (by decide +kernel) (by decide +kernel)
theorem tT_L_copy : mm_TW yL_copy cL_copy 4 (some .int) [(0, 9, 12, 19), (0, 9, 15, 45)] 3 := ⟨List.mem_filter.mpr ⟨by decide +kernel, by decide +kernel⟩, wd_141, by decide +kernel, by decide +kernel, by decide +kernel, by decide +kernel⟩
theorem wd_1962 : Cond.methodLink RL 275 yL_copy ∈ lw_good := mm_wd 1962 (by decide +kernel) (by decide +kernel)
theorem wd_1963 : Cond.static yL_copy ∈ lw_good := mm_wd 1963 (by decide +kernel) (by decide +kernel)
theorem wd_2721 : Cond.code yX12_copy cX12_copy 3 (some .int) ∈ lw_good := mm_wd 2721 (by decide +kernel) (by decide +kernel)
theorem tT_X12_copy : mm_T yX12_copy cX12_copy 3 (some .int) 1 := ⟨wd_2721, wd_170, by decide +kernel, by decide +kernel, by decide +kernel, by decide +kernel⟩
theorem wd_2718 : Cond.methodLink RL 277 yX12_copy ∈ lw_good := mm_wd 2718 (by decide +kernel) (by decide +kernel)
theorem wd_2719 : Cond.instanceMethod yX12_copy ∈ lw_good := mm_wd 2719 (by decide +kernel) (by decide +kernel)
theorem wd_2720 : Cond.selects RX12 yX12_copy yX12_copy ∈ lw_good := mm_wd 2720 (by decide +kernel) (by decide +kernel)
theorem tT_L_image : mm_TW yL_image cL_image 3 (some .int) [(0, 5, 8, 19)] 2 := ⟨List.mem_filter.mpr ⟨by decide +kernel, by decide +kernel⟩, wd_141, by decide +kernel, by decide +kernel, by decide +kernel, by decide +kernel⟩
theorem wd_1969 : Cond.methodLink RL 278 yL_image ∈ lw_good := mm_wd 1969 (by decide +kernel) (by decide +kernel)
theorem wd_1970 : Cond.static yL_image ∈ lw_good := mm_wd 1970 (by decide +kernel) (by decide +kernel)
theorem wd_2725 : Cond.code yX12_image cX12_image 3 none ∈ lw_good := mm_wd 2725 (by decide +kernel) (by decide +kernel)
theorem tT_X12_image : mm_T yX12_image cX12_image 3 none 1 := ⟨wd_2725, wd_170, by decide +kernel, by decide +kernel, by decide +kernel, by decide +kernel⟩
theorem wd_2722 : Cond.methodLink RL 281 yX12_image ∈ lw_good := mm_wd 2722 (by decide +kernel) (by decide +kernel)
theorem wd_2723 : Cond.instanceMethod yX12_image ∈ lw_good := mm_wd 2723 (by decide +kernel) (by decide +kernel)
theorem wd_2724 : Cond.selects RX12 yX12_image yX12_image ∈ lw_good := mm_wd 2724 (by decide +kernel) (by decide +kernel)
theorem tT_L_restore : mm_TW yL_restore cL_restore 3 (some .int) [(0, 5, 8, 19), (0, 5, 11, 45)] 2 := ⟨List.mem_filter.mpr ⟨by decide +kernel, by decide +kernel⟩, wd_141, by decide +kernel, by decide +kernel, by decide +kernel, by decide +kernel⟩
theorem wd_1985 : Cond.methodLink RL 282 yL_restore ∈ lw_good := mm_wd 1985 (by decide +kernel) (by decide +kernel)
theorem wd_1986 : Cond.static yL_restore ∈ lw_good := mm_wd 1986 (by decide +kernel) (by decide +kernel)
theorem wd_2729 : Cond.code yX12_restore cX12_restore 3 none ∈ lw_good := mm_wd 2729 (by decide +kernel) (by decide +kernel)
theorem tT_X12_restore : mm_T yX12_restore cX12_restore 3 none 1 := ⟨wd_2729, wd_170, by decide +kernel, by decide +kernel, by decide +kernel, by decide +kernel⟩
theorem wd_2726 : Cond.methodLink RL 284 yX12_restore ∈ lw_good := mm_wd 2726 (by decide +kernel) (by decide +kernel)
theorem wd_2727 : Cond.instanceMethod yX12_restore ∈ lw_good := mm_wd 2727 (by decide +kernel) (by decide +kernel)
theorem wd_2728 : Cond.selects RX12 yX12_restore yX12_restore ∈ lw_good := mm_wd 2728 (by decide +kernel) (by decide +kernel)
theorem wd_1136 : Cond.code yX11_count cX11_count 2 (some .int) ∈ lw_good := mm_wd 1136 (by decide +kernel) (by decide +kernel)
theorem tT_X11_count : mm_T yX11_count cX11_count 2 (some .int) 1 := ⟨wd_1136, wd_142, by decide +kernel, by decide +kernel, by decide +kernel, by decide +kernel⟩
theorem wd_1133 : Cond.methodLink RL 285 yX11_count ∈ lw_good := mm_wd 1133 (by decide +kernel) (by decide +kernel)
theorem wd_1134 : Cond.instanceMethod yX11_count ∈ lw_good := mm_wd 1134 (by decide +kernel) (by decide +kernel)
theorem wd_1135 : Cond.selects RX11 yX11_count yX11_count ∈ lw_good := mm_wd 1135 (by decide +kernel) (by decide +kernel)
theorem wd_2733 : Cond.code yX12_count cX12_count 2 (some .int) ∈ lw_good := mm_wd 2733 (by decide +kernel) (by decide +kernel)
theorem tT_X12_count : mm_T yX12_count cX12_count 2 (some .int) 1 := ⟨wd_2733, wd_170, by decide +kernel, by decide +kernel, by decide +kernel, by decide +kernel⟩
theorem wd_2730 : Cond.methodLink RL 288 yX12_count ∈ lw_good := mm_wd 2730 (by decide +kernel) (by decide +kernel)
theorem wd_2731 : Cond.instanceMethod yX12_count ∈ lw_good := mm_wd 2731 (by decide +kernel) (by decide +kernel)
theorem wd_2732 : Cond.selects RX12 yX12_count yX12_count ∈ lw_good := mm_wd 2732 (by decide +kernel) (by decide +kernel)
def F_L_law_2603 (k23 : Option Nat → Option Nat → Option Nat → Option Nat → Int32 → MH → Option (Int32 × MH)) (l0 : Option Nat) (l1 : Option Nat) (l2 : Option Nat) (l3 : Option Nat) (l4 : Int32) (h : MH) : Option (Int32 × MH) := k23 l0 l1 l2 l3 (l4 + (6 : Int32)) h
set_option maxRecDepth 20000 in
set_option maxHeartbeats 4000000 in
theorem w_L_law_2603 {d : Nat} {V : Nat → List (Nat × Value) → List Value → MH → Prop} {r : Int32} {hz : MH} {k23 : Option Nat → Option Nat → Option Nat → Option Nat → Int32 → MH → Option (Int32 × MH)} (hd : 141 ≤ d) (C : mm_D [] d yL_law cL_law 8 (some .boolean) (.inr (some (.int r))) hz V) (q23 : ∀ (x0 : Option Nat) (x1 : Option Nat) (x2 : Option Nat) (x3 : Option Nat) (x4 : Int32) (h : MH), k23 x0 x1 x2 x3 x4 h = some (r, hz) → V 23 [(0, va_rf x0), (1, va_rf x1), (2, va_rf x2), (3, va_rf x3), (4, .int x4)] [] h) (l0 : Option Nat) (l1 : Option Nat) (l2 : Option Nat) (l3 : Option Nat) (l4 : Int32) (h : MH) (hK : F_L_law_2603 k23 l0 l1 l2 l3 l4 h = some (r, hz)) : V 2603 [(0, va_rf l0), (1, va_rf l1), (2, va_rf l2), (3, va_rf l3), (4, .int l4)] [] h := by
  unfold F_L_law_2603 at hK
  refine mD_iinc C (pc := 2603) (v := (l4 + (6 : Int32))) (lv' := [(4, .int (l4 + (6 : Int32))), (0, va_rf l0), (1, va_rf l1), (2, va_rf l2), (3, va_rf l3)]) 4 dL_law_2603 rfl rfl (by decide) (by simp [mm_crf]) ?_
  refine mD_goto C (pc := 2606) (tgt := 23) dL_law_2606 (by decide) ?_
  refine mD_sub C [1, 2, 3, 4, 0] rfl ?_
  exact q23 _ _ _ _ _ _ hK
def F_L_law_232 (k23 : Option Nat → Option Nat → Option Nat → Option Nat → Int32 → MH → Option (Int32 × MH)) (l0 : Option Nat) (l1 : Option Nat) (l2 : Option Nat) (l3 : Option Nat) (l4 : Int32) (h : MH) : Option (Int32 × MH) := (aS h l0 (l4 + (1 : Int32))).bind fun v238 => (aS h l0 (l4 + (2 : Int32))).bind fun v244 => (aS h l0 (l4 + (3 : Int32))).bind fun v250 => (aS h l0 (l4 + (4 : Int32))).bind fun v256 => (aS h l0 (l4 + (5 : Int32))).bind fun v262 => mm_b2 (cV h l1 11 (F_X11_feed l1 v238 v244 v250 v256 v262 h)) fun v263 h263 => (aS h263 l0 (l4 + (1 : Int32))).bind fun v272 => (aS h263 l0 (l4 + (2 : Int32))).bind fun v278 => (aS h263 l0 (l4 + (3 : Int32))).bind fun v284 => (aS h263 l0 (l4 + (4 : Int32))).bind fun v290 => (aS h263 l0 (l4 + (5 : Int32))).bind fun v296 => mm_b2 (cV h263 l2 12 (F_X12_feed l2 v272 v278 v284 v290 v296 h263)) fun v297 h297 => if v263 = v297 then (F_L_law_2603 k23 l0 l1 l2 l3 l4 h297) else (rZ (0 : Int32) h297)
set_option maxRecDepth 20000 in
set_option maxHeartbeats 4000000 in
theorem w_L_law_232 {d : Nat} {V : Nat → List (Nat × Value) → List Value → MH → Prop} {r : Int32} {hz : MH} {k23 : Option Nat → Option Nat → Option Nat → Option Nat → Int32 → MH → Option (Int32 × MH)} (hd : 141 ≤ d) (C : mm_D [] d yL_law cL_law 8 (some .boolean) (.inr (some (.int r))) hz V) (q23 : ∀ (x0 : Option Nat) (x1 : Option Nat) (x2 : Option Nat) (x3 : Option Nat) (x4 : Int32) (h : MH), k23 x0 x1 x2 x3 x4 h = some (r, hz) → V 23 [(0, va_rf x0), (1, va_rf x1), (2, va_rf x2), (3, va_rf x3), (4, .int x4)] [] h) (l0 : Option Nat) (l1 : Option Nat) (l2 : Option Nat) (l3 : Option Nat) (l4 : Int32) (h : MH) (hK : F_L_law_232 k23 l0 l1 l2 l3 l4 h = some (r, hz)) : V 232 [(0, va_rf l0), (1, va_rf l1), (2, va_rf l2), (3, va_rf l3), (4, .int l4)] [] h := by
  unfold F_L_law_232 at hK
  refine mD_aload_n C (pc := 232) 1 dL_law_232 rfl ?_
  refine mD_aload_n C (pc := 233) 0 dL_law_233 rfl ?_
  refine mD_iload C (pc := 234) 4 dL_law_234 rfl ?_
  refine mD_iconst C (pc := 236) (v := (1 : Int32)) dL_law_236 (by decide) ?_
  refine mD_iadd C (pc := 237) dL_law_237 ?_
  replace hK := mm_bd hK; obtain ⟨v238, e238, hK⟩ := hK
  refine mD_sald C (pc := 238) dL_law_238 e238 ?_
  refine mD_aload_n C (pc := 239) 0 dL_law_239 rfl ?_
  refine mD_iload C (pc := 240) 4 dL_law_240 rfl ?_
  refine mD_iconst C (pc := 242) (v := (2 : Int32)) dL_law_242 (by decide) ?_
  refine mD_iadd C (pc := 243) dL_law_243 ?_
  replace hK := mm_bd hK; obtain ⟨v244, e244, hK⟩ := hK
  refine mD_sald C (pc := 244) dL_law_244 e244 ?_
  refine mD_aload_n C (pc := 245) 0 dL_law_245 rfl ?_
  refine mD_iload C (pc := 246) 4 dL_law_246 rfl ?_
  refine mD_iconst C (pc := 248) (v := (3 : Int32)) dL_law_248 (by decide) ?_
  refine mD_iadd C (pc := 249) dL_law_249 ?_
  replace hK := mm_bd hK; obtain ⟨v250, e250, hK⟩ := hK
  refine mD_sald C (pc := 250) dL_law_250 e250 ?_
  refine mD_aload_n C (pc := 251) 0 dL_law_251 rfl ?_
  refine mD_iload C (pc := 252) 4 dL_law_252 rfl ?_
  refine mD_iconst C (pc := 254) (v := (4 : Int32)) dL_law_254 (by decide) ?_
  refine mD_iadd C (pc := 255) dL_law_255 ?_
  replace hK := mm_bd hK; obtain ⟨v256, e256, hK⟩ := hK
  refine mD_sald C (pc := 256) dL_law_256 e256 ?_
  refine mD_aload_n C (pc := 257) 0 dL_law_257 rfl ?_
  refine mD_iload C (pc := 258) 4 dL_law_258 rfl ?_
  refine mD_iconst C (pc := 260) (v := (5 : Int32)) dL_law_260 (by decide) ?_
  refine mD_iadd C (pc := 261) dL_law_261 ?_
  replace hK := mm_bd hK; obtain ⟨v262, e262, hK⟩ := hK
  refine mD_sald C (pc := 262) dL_law_262 e262 ?_
  replace hK := mm_b2s hK; obtain ⟨v263, h263, e263, hK⟩ := hK
  obtain ⟨o263, e263⟩ := cV_some e263
  refine mD_callV C (pc := 263) (d1 := 2) (As := [.int v238, .int v244, .int v250, .int v256, .int v262]) (st := []) (vk := (some (.int v263))) ((S_X11_feed (by omega)) e263) tT_X11_feed o263 (Or.inr ⟨_, rfl, rfl⟩) wd_894 wd_895 wd_896 (by omega) (by decide) rfl (by simp [mm_crf, mm_cti, mm_ctl]) rfl dL_law_263 ?_
  show V _ _ (.int v263 :: _) _
  refine mD_aload_n C (pc := 266) 2 dL_law_266 rfl ?_
  refine mD_aload_n C (pc := 267) 0 dL_law_267 rfl ?_
  refine mD_iload C (pc := 268) 4 dL_law_268 rfl ?_
  refine mD_iconst C (pc := 270) (v := (1 : Int32)) dL_law_270 (by decide) ?_
  refine mD_iadd C (pc := 271) dL_law_271 ?_
  replace hK := mm_bd hK; obtain ⟨v272, e272, hK⟩ := hK
  refine mD_sald C (pc := 272) dL_law_272 e272 ?_
  refine mD_aload_n C (pc := 273) 0 dL_law_273 rfl ?_
  refine mD_iload C (pc := 274) 4 dL_law_274 rfl ?_
  refine mD_iconst C (pc := 276) (v := (2 : Int32)) dL_law_276 (by decide) ?_
  refine mD_iadd C (pc := 277) dL_law_277 ?_
  replace hK := mm_bd hK; obtain ⟨v278, e278, hK⟩ := hK
  refine mD_sald C (pc := 278) dL_law_278 e278 ?_
  refine mD_aload_n C (pc := 279) 0 dL_law_279 rfl ?_
  refine mD_iload C (pc := 280) 4 dL_law_280 rfl ?_
  refine mD_iconst C (pc := 282) (v := (3 : Int32)) dL_law_282 (by decide) ?_
  refine mD_iadd C (pc := 283) dL_law_283 ?_
  replace hK := mm_bd hK; obtain ⟨v284, e284, hK⟩ := hK
  refine mD_sald C (pc := 284) dL_law_284 e284 ?_
  refine mD_aload_n C (pc := 285) 0 dL_law_285 rfl ?_
  refine mD_iload C (pc := 286) 4 dL_law_286 rfl ?_
  refine mD_iconst C (pc := 288) (v := (4 : Int32)) dL_law_288 (by decide) ?_
  refine mD_iadd C (pc := 289) dL_law_289 ?_
  replace hK := mm_bd hK; obtain ⟨v290, e290, hK⟩ := hK
  refine mD_sald C (pc := 290) dL_law_290 e290 ?_
  refine mD_aload_n C (pc := 291) 0 dL_law_291 rfl ?_
  refine mD_iload C (pc := 292) 4 dL_law_292 rfl ?_
  refine mD_iconst C (pc := 294) (v := (5 : Int32)) dL_law_294 (by decide) ?_
  refine mD_iadd C (pc := 295) dL_law_295 ?_
  replace hK := mm_bd hK; obtain ⟨v296, e296, hK⟩ := hK
  refine mD_sald C (pc := 296) dL_law_296 e296 ?_
  replace hK := mm_b2s hK; obtain ⟨v297, h297, e297, hK⟩ := hK
  obtain ⟨o297, e297⟩ := cV_some e297
  refine mD_callV C (pc := 297) (d1 := 1) (As := [.int v272, .int v278, .int v284, .int v290, .int v296]) (st := [.int v263]) (vk := (some (.int v297))) ((S_X12_feed (by omega)) e297) tT_X12_feed o297 (Or.inr ⟨_, rfl, rfl⟩) wd_2149 wd_2150 wd_2151 (by omega) (by decide) rfl (by simp [mm_crf, mm_cti, mm_ctl]) rfl dL_law_297 ?_
  show V _ _ (.int v297 :: _) _
  refine mD_icmp_eq C (pc := 300) (tgt := 2603) dL_law_300 (by decide) (fun hc => ?_) (fun hc => ?_)
  · replace hK := mm_ip hc hK
    exact w_L_law_2603 hd C (fun z0 z1 z2 z3 z4 z5 hK => q23 z0 z1 z2 z3 z4 z5 hK) _ _ _ _ _ _ hK
  · replace hK := mm_in hc hK
    refine mD_iconst C (pc := 303) (v := (0 : Int32)) dL_law_303 (by decide) ?_
    replace hK := rZ_some hK; obtain ⟨hv304, hK⟩ := hK
    cases hK
    exact mD_zret C (pc := 304) rfl (mm_nrZ hv304) dL_law_304 rfl rfl
def F_L_law_358 (k23 : Option Nat → Option Nat → Option Nat → Option Nat → Int32 → MH → Option (Int32 × MH)) (l0 : Option Nat) (l1 : Option Nat) (l2 : Option Nat) (l3 : Option Nat) (l4 : Int32) (h : MH) : Option (Int32 × MH) := F_L_law_2603 k23 l0 l1 l2 l3 l4 h
set_option maxRecDepth 20000 in
set_option maxHeartbeats 4000000 in
theorem w_L_law_358 {d : Nat} {V : Nat → List (Nat × Value) → List Value → MH → Prop} {r : Int32} {hz : MH} {k23 : Option Nat → Option Nat → Option Nat → Option Nat → Int32 → MH → Option (Int32 × MH)} (hd : 141 ≤ d) (C : mm_D [] d yL_law cL_law 8 (some .boolean) (.inr (some (.int r))) hz V) (q23 : ∀ (x0 : Option Nat) (x1 : Option Nat) (x2 : Option Nat) (x3 : Option Nat) (x4 : Int32) (h : MH), k23 x0 x1 x2 x3 x4 h = some (r, hz) → V 23 [(0, va_rf x0), (1, va_rf x1), (2, va_rf x2), (3, va_rf x3), (4, .int x4)] [] h) (l0 : Option Nat) (l1 : Option Nat) (l2 : Option Nat) (l3 : Option Nat) (l4 : Int32) (h : MH) (hK : F_L_law_358 k23 l0 l1 l2 l3 l4 h = some (r, hz)) : V 358 [(0, va_rf l0), (1, va_rf l1), (2, va_rf l2), (3, va_rf l3), (4, .int l4)] [] h := by
  unfold F_L_law_358 at hK
  refine mD_goto C (pc := 358) (tgt := 2603) dL_law_358 (by decide) ?_
  exact w_L_law_2603 hd C (fun z0 z1 z2 z3 z4 z5 hK => q23 z0 z1 z2 z3 z4 z5 hK) _ _ _ _ _ _ hK
def F_L_law_305 (k23 : Option Nat → Option Nat → Option Nat → Option Nat → Int32 → MH → Option (Int32 × MH)) (l0 : Option Nat) (l1 : Option Nat) (l2 : Option Nat) (l3 : Option Nat) (l4 : Int32) (h : MH) : Option (Int32 × MH) := (aS h l0 (l4 + (1 : Int32))).bind fun v311 => mm_b2 (F_L_exchange l1 v311 l3 h) fun v313 h313 => (aS h313 l0 (l4 + (1 : Int32))).bind fun v324 => mm_b2 (cV h313 l2 12 (F_X12_exchange l2 v324 h313)) fun v325 h325 => mm_b2 (cV h325 l2 12 (F_X12_thrown l2 h325)) fun v331 h331 => if v331 = v313 then (if v313 = 0 then ((aL h331 l3 (0 : Int32)).bind fun v348 => if (lg_cmp v348 (v325.toInt64)) = 0 then (F_L_law_358 k23 l0 l1 l2 l3 l4 h331) else (rZ (0 : Int32) h331)) else (F_L_law_358 k23 l0 l1 l2 l3 l4 h331)) else (rZ (0 : Int32) h331)
set_option maxRecDepth 20000 in
set_option maxHeartbeats 4000000 in
theorem w_L_law_305 {d : Nat} {V : Nat → List (Nat × Value) → List Value → MH → Prop} {r : Int32} {hz : MH} {k23 : Option Nat → Option Nat → Option Nat → Option Nat → Int32 → MH → Option (Int32 × MH)} (hd : 141 ≤ d) (C : mm_D [] d yL_law cL_law 8 (some .boolean) (.inr (some (.int r))) hz V) (q23 : ∀ (x0 : Option Nat) (x1 : Option Nat) (x2 : Option Nat) (x3 : Option Nat) (x4 : Int32) (h : MH), k23 x0 x1 x2 x3 x4 h = some (r, hz) → V 23 [(0, va_rf x0), (1, va_rf x1), (2, va_rf x2), (3, va_rf x3), (4, .int x4)] [] h) (l0 : Option Nat) (l1 : Option Nat) (l2 : Option Nat) (l3 : Option Nat) (l4 : Int32) (h : MH) (hK : F_L_law_305 k23 l0 l1 l2 l3 l4 h = some (r, hz)) : V 305 [(0, va_rf l0), (1, va_rf l1), (2, va_rf l2), (3, va_rf l3), (4, .int l4)] [] h := by
  unfold F_L_law_305 at hK
  refine mD_aload_n C (pc := 305) 1 dL_law_305 rfl ?_
  refine mD_aload_n C (pc := 306) 0 dL_law_306 rfl ?_
  refine mD_iload C (pc := 307) 4 dL_law_307 rfl ?_
  refine mD_iconst C (pc := 309) (v := (1 : Int32)) dL_law_309 (by decide) ?_
  refine mD_iadd C (pc := 310) dL_law_310 ?_
  replace hK := mm_bd hK; obtain ⟨v311, e311, hK⟩ := hK
  refine mD_sald C (pc := 311) dL_law_311 e311 ?_
  refine mD_aload_n C (pc := 312) 3 dL_law_312 rfl ?_
  replace hK := mm_b2s hK; obtain ⟨v313, h313, e313, hK⟩ := hK
  refine mD_callSW C (pc := 313) (d1 := 140) (As := [va_rf l1, .int v311, va_rf l3]) (st := []) (vk := (some (.int v313))) ((S_L_exchange (by omega)) e313) tT_L_exchange wd_1155 wd_1156 (by omega) (by decide) rfl (by simp [mm_crf, mm_cti, mm_ctl]) rfl dL_law_313 ?_
  show V _ _ (.int v313 :: _) _
  refine mD_istore C (pc := 316) (i := 5) (lv' := [(5, .int v313), (0, va_rf l0), (1, va_rf l1), (2, va_rf l2), (3, va_rf l3), (4, .int l4)]) dL_law_316 (by decide) rfl ?_
  refine mD_aload_n C (pc := 318) 3 dL_law_318 rfl ?_
  refine mD_aload_n C (pc := 319) 1 dL_law_319 rfl ?_
  refine mD_iload C (pc := 320) 5 dL_law_320 rfl ?_
  refine mD_iconst C (pc := 322) (v := (1 : Int32)) dL_law_322 (by decide) ?_
  refine mD_iadd C (pc := 323) dL_law_323 ?_
  replace hK := mm_bd hK; obtain ⟨v324, e324, hK⟩ := hK
  refine mD_sald C (pc := 324) dL_law_324 e324 ?_
  replace hK := mm_b2s hK; obtain ⟨v325, h325, e325, hK⟩ := hK
  obtain ⟨o325, e325⟩ := cV_some e325
  refine mD_callV C (pc := 325) (d1 := 139) (As := [.int v324]) (st := []) (vk := (some (.int v325))) ((S_X12_exchange (by omega)) e325) tT_X12_exchange o325 (Or.inr ⟨_, rfl, rfl⟩) wd_2153 wd_2154 wd_2155 (by omega) (by decide) rfl (by simp [mm_crf, mm_cti, mm_ctl]) rfl dL_law_325 ?_
  show V _ _ (.int v325 :: _) _
  refine mD_istore C (pc := 328) (i := 6) (lv' := [(6, .int v325), (5, .int v313), (0, va_rf l0), (1, va_rf l1), (2, va_rf l2), (3, va_rf l3), (4, .int l4)]) dL_law_328 (by decide) rfl ?_
  refine mD_aload_n C (pc := 330) 4 dL_law_330 rfl ?_
  replace hK := mm_b2s hK; obtain ⟨v331, h331, e331, hK⟩ := hK
  obtain ⟨o331, e331⟩ := cV_some e331
  refine mD_callV C (pc := 331) (d1 := 1) (As := []) (st := []) (vk := (some (.int v331))) ((S_X12_thrown (by omega)) e331) tT_X12_thrown o331 (Or.inr ⟨_, rfl, rfl⟩) wd_2145 wd_2146 wd_2147 (by omega) (by decide) rfl (by simp [mm_crf, mm_cti, mm_ctl]) rfl dL_law_331 ?_
  show V _ _ (.int v331 :: _) _
  refine mD_iload C (pc := 334) 1 dL_law_334 rfl ?_
  refine mD_icmp_eq C (pc := 336) (tgt := 341) dL_law_336 (by decide) (fun hc => ?_) (fun hc => ?_)
  · replace hK := mm_ip hc hK
    refine mD_iload C (pc := 341) 1 dL_law_341 rfl ?_
    refine mD_if_ne C (pc := 343) (tgt := 358) dL_law_343 (by decide) (fun hc => ?_) (fun hc => ?_)
    · replace hK := mm_in hc hK
      refine mD_sub C [2, 3, 4, 5, 6] rfl ?_
      exact w_L_law_358 hd C (fun z0 z1 z2 z3 z4 z5 hK => q23 z0 z1 z2 z3 z4 z5 hK) _ _ _ _ _ _ hK
    · replace hK := mm_ip hc hK
      refine mD_aload_n C (pc := 346) 5 dL_law_346 rfl ?_
      refine mD_iconst C (pc := 347) (v := (0 : Int32)) dL_law_347 (by decide) ?_
      replace hK := mm_bd hK; obtain ⟨v348, e348, hK⟩ := hK
      refine mD_lald C (pc := 348) dL_law_348 e348 ?_
      refine mD_iload C (pc := 349) 0 dL_law_349 rfl ?_
      refine mD_i2l C (pc := 351) dL_law_351 ?_
      refine mD_lcmp C (pc := 352) dL_law_352 ?_
      refine mD_if_eq C (pc := 353) (tgt := 358) dL_law_353 (by decide) (fun hc => ?_) (fun hc => ?_)
      · replace hK := mm_ip hc hK
        refine mD_sub C [2, 3, 4, 5, 6] rfl ?_
        exact w_L_law_358 hd C (fun z0 z1 z2 z3 z4 z5 hK => q23 z0 z1 z2 z3 z4 z5 hK) _ _ _ _ _ _ hK
      · replace hK := mm_in hc hK
        refine mD_iconst C (pc := 356) (v := (0 : Int32)) dL_law_356 (by decide) ?_
        replace hK := rZ_some hK; obtain ⟨hv357, hK⟩ := hK
        cases hK
        exact mD_zret C (pc := 357) rfl (mm_nrZ hv357) dL_law_357 rfl rfl
  · replace hK := mm_in hc hK
    refine mD_iconst C (pc := 339) (v := (0 : Int32)) dL_law_339 (by decide) ?_
    replace hK := rZ_some hK; obtain ⟨hv340, hK⟩ := hK
    cases hK
    exact mD_zret C (pc := 340) rfl (mm_nrZ hv340) dL_law_340 rfl rfl
def F_L_law_361 (k23 : Option Nat → Option Nat → Option Nat → Option Nat → Int32 → MH → Option (Int32 × MH)) (l0 : Option Nat) (l1 : Option Nat) (l2 : Option Nat) (l3 : Option Nat) (l4 : Int32) (h : MH) : Option (Int32 × MH) := (aS h l0 (l4 + (1 : Int32))).bind fun v367 => mm_b2 (cV h l1 11 (F_X11_fault l1 v367 h)) fun v368 h368 => (aS h368 l0 (l4 + (1 : Int32))).bind fun v377 => mm_b2 (cV h368 l2 12 (F_X12_fault l2 v377 h368)) fun v378 h378 => if v368 = v378 then (F_L_law_2603 k23 l0 l1 l2 l3 l4 h378) else (rZ (0 : Int32) h378)
set_option maxRecDepth 20000 in
set_option maxHeartbeats 4000000 in
theorem w_L_law_361 {d : Nat} {V : Nat → List (Nat × Value) → List Value → MH → Prop} {r : Int32} {hz : MH} {k23 : Option Nat → Option Nat → Option Nat → Option Nat → Int32 → MH → Option (Int32 × MH)} (hd : 141 ≤ d) (C : mm_D [] d yL_law cL_law 8 (some .boolean) (.inr (some (.int r))) hz V) (q23 : ∀ (x0 : Option Nat) (x1 : Option Nat) (x2 : Option Nat) (x3 : Option Nat) (x4 : Int32) (h : MH), k23 x0 x1 x2 x3 x4 h = some (r, hz) → V 23 [(0, va_rf x0), (1, va_rf x1), (2, va_rf x2), (3, va_rf x3), (4, .int x4)] [] h) (l0 : Option Nat) (l1 : Option Nat) (l2 : Option Nat) (l3 : Option Nat) (l4 : Int32) (h : MH) (hK : F_L_law_361 k23 l0 l1 l2 l3 l4 h = some (r, hz)) : V 361 [(0, va_rf l0), (1, va_rf l1), (2, va_rf l2), (3, va_rf l3), (4, .int l4)] [] h := by
  unfold F_L_law_361 at hK
  refine mD_aload_n C (pc := 361) 1 dL_law_361 rfl ?_
  refine mD_aload_n C (pc := 362) 0 dL_law_362 rfl ?_
  refine mD_iload C (pc := 363) 4 dL_law_363 rfl ?_
  refine mD_iconst C (pc := 365) (v := (1 : Int32)) dL_law_365 (by decide) ?_
  refine mD_iadd C (pc := 366) dL_law_366 ?_
  replace hK := mm_bd hK; obtain ⟨v367, e367, hK⟩ := hK
  refine mD_sald C (pc := 367) dL_law_367 e367 ?_
  replace hK := mm_b2s hK; obtain ⟨v368, h368, e368, hK⟩ := hK
  obtain ⟨o368, e368⟩ := cV_some e368
  refine mD_callV C (pc := 368) (d1 := 1) (As := [.int v367]) (st := []) (vk := (some (.int v368))) ((S_X11_fault (by omega)) e368) tT_X11_fault o368 (Or.inr ⟨_, rfl, rfl⟩) wd_902 wd_903 wd_904 (by omega) (by decide) rfl (by simp [mm_crf, mm_cti, mm_ctl]) rfl dL_law_368 ?_
  show V _ _ (.int v368 :: _) _
  refine mD_aload_n C (pc := 371) 2 dL_law_371 rfl ?_
  refine mD_aload_n C (pc := 372) 0 dL_law_372 rfl ?_
  refine mD_iload C (pc := 373) 4 dL_law_373 rfl ?_
  refine mD_iconst C (pc := 375) (v := (1 : Int32)) dL_law_375 (by decide) ?_
  refine mD_iadd C (pc := 376) dL_law_376 ?_
  replace hK := mm_bd hK; obtain ⟨v377, e377, hK⟩ := hK
  refine mD_sald C (pc := 377) dL_law_377 e377 ?_
  replace hK := mm_b2s hK; obtain ⟨v378, h378, e378, hK⟩ := hK
  obtain ⟨o378, e378⟩ := cV_some e378
  refine mD_callV C (pc := 378) (d1 := 1) (As := [.int v377]) (st := [.int v368]) (vk := (some (.int v378))) ((S_X12_fault (by omega)) e378) tT_X12_fault o378 (Or.inr ⟨_, rfl, rfl⟩) wd_2299 wd_2300 wd_2301 (by omega) (by decide) rfl (by simp [mm_crf, mm_cti, mm_ctl]) rfl dL_law_378 ?_
  show V _ _ (.int v378 :: _) _
  refine mD_icmp_eq C (pc := 381) (tgt := 2603) dL_law_381 (by decide) (fun hc => ?_) (fun hc => ?_)
  · replace hK := mm_ip hc hK
    exact w_L_law_2603 hd C (fun z0 z1 z2 z3 z4 z5 hK => q23 z0 z1 z2 z3 z4 z5 hK) _ _ _ _ _ _ hK
  · replace hK := mm_in hc hK
    refine mD_iconst C (pc := 384) (v := (0 : Int32)) dL_law_384 (by decide) ?_
    replace hK := rZ_some hK; obtain ⟨hv385, hK⟩ := hK
    cases hK
    exact mD_zret C (pc := 385) rfl (mm_nrZ hv385) dL_law_385 rfl rfl
def F_L_law_451 (k23 : Option Nat → Option Nat → Option Nat → Option Nat → Int32 → MH → Option (Int32 × MH)) (l0 : Option Nat) (l1 : Option Nat) (l2 : Option Nat) (l3 : Option Nat) (l4 : Int32) (h : MH) : Option (Int32 × MH) := F_L_law_2603 k23 l0 l1 l2 l3 l4 h
set_option maxRecDepth 20000 in
set_option maxHeartbeats 4000000 in
theorem w_L_law_451 {d : Nat} {V : Nat → List (Nat × Value) → List Value → MH → Prop} {r : Int32} {hz : MH} {k23 : Option Nat → Option Nat → Option Nat → Option Nat → Int32 → MH → Option (Int32 × MH)} (hd : 141 ≤ d) (C : mm_D [] d yL_law cL_law 8 (some .boolean) (.inr (some (.int r))) hz V) (q23 : ∀ (x0 : Option Nat) (x1 : Option Nat) (x2 : Option Nat) (x3 : Option Nat) (x4 : Int32) (h : MH), k23 x0 x1 x2 x3 x4 h = some (r, hz) → V 23 [(0, va_rf x0), (1, va_rf x1), (2, va_rf x2), (3, va_rf x3), (4, .int x4)] [] h) (l0 : Option Nat) (l1 : Option Nat) (l2 : Option Nat) (l3 : Option Nat) (l4 : Int32) (h : MH) (hK : F_L_law_451 k23 l0 l1 l2 l3 l4 h = some (r, hz)) : V 451 [(0, va_rf l0), (1, va_rf l1), (2, va_rf l2), (3, va_rf l3), (4, .int l4)] [] h := by
  unfold F_L_law_451 at hK
  refine mD_goto C (pc := 451) (tgt := 2603) dL_law_451 (by decide) ?_
  exact w_L_law_2603 hd C (fun z0 z1 z2 z3 z4 z5 hK => q23 z0 z1 z2 z3 z4 z5 hK) _ _ _ _ _ _ hK
def F_L_law_386 (k23 : Option Nat → Option Nat → Option Nat → Option Nat → Int32 → MH → Option (Int32 × MH)) (l0 : Option Nat) (l1 : Option Nat) (l2 : Option Nat) (l3 : Option Nat) (l4 : Int32) (h : MH) : Option (Int32 × MH) := (aS h l0 (l4 + (1 : Int32))).bind fun v392 => (aS h l0 (l4 + (2 : Int32))).bind fun v398 => mm_b2 (F_L_line l1 v392 v398 l3 h) fun v400 h400 => (aS h400 l0 (l4 + (1 : Int32))).bind fun v411 => (aS h400 l0 (l4 + (2 : Int32))).bind fun v417 => mm_b2 (cV h400 l2 12 (F_X12_line l2 v411 v417 h400)) fun v418 h418 => mm_b2 (cV h418 l2 12 (F_X12_thrown l2 h418)) fun v424 h424 => if v424 = v400 then (if v400 = 0 then ((aL h424 l3 (0 : Int32)).bind fun v441 => if (lg_cmp v441 (v418.toInt64)) = 0 then (F_L_law_451 k23 l0 l1 l2 l3 l4 h424) else (rZ (0 : Int32) h424)) else (F_L_law_451 k23 l0 l1 l2 l3 l4 h424)) else (rZ (0 : Int32) h424)
set_option maxRecDepth 20000 in
set_option maxHeartbeats 4000000 in
theorem w_L_law_386 {d : Nat} {V : Nat → List (Nat × Value) → List Value → MH → Prop} {r : Int32} {hz : MH} {k23 : Option Nat → Option Nat → Option Nat → Option Nat → Int32 → MH → Option (Int32 × MH)} (hd : 141 ≤ d) (C : mm_D [] d yL_law cL_law 8 (some .boolean) (.inr (some (.int r))) hz V) (q23 : ∀ (x0 : Option Nat) (x1 : Option Nat) (x2 : Option Nat) (x3 : Option Nat) (x4 : Int32) (h : MH), k23 x0 x1 x2 x3 x4 h = some (r, hz) → V 23 [(0, va_rf x0), (1, va_rf x1), (2, va_rf x2), (3, va_rf x3), (4, .int x4)] [] h) (l0 : Option Nat) (l1 : Option Nat) (l2 : Option Nat) (l3 : Option Nat) (l4 : Int32) (h : MH) (hK : F_L_law_386 k23 l0 l1 l2 l3 l4 h = some (r, hz)) : V 386 [(0, va_rf l0), (1, va_rf l1), (2, va_rf l2), (3, va_rf l3), (4, .int l4)] [] h := by
  unfold F_L_law_386 at hK
  refine mD_aload_n C (pc := 386) 1 dL_law_386 rfl ?_
  refine mD_aload_n C (pc := 387) 0 dL_law_387 rfl ?_
  refine mD_iload C (pc := 388) 4 dL_law_388 rfl ?_
  refine mD_iconst C (pc := 390) (v := (1 : Int32)) dL_law_390 (by decide) ?_
  refine mD_iadd C (pc := 391) dL_law_391 ?_
  replace hK := mm_bd hK; obtain ⟨v392, e392, hK⟩ := hK
  refine mD_sald C (pc := 392) dL_law_392 e392 ?_
  refine mD_aload_n C (pc := 393) 0 dL_law_393 rfl ?_
  refine mD_iload C (pc := 394) 4 dL_law_394 rfl ?_
  refine mD_iconst C (pc := 396) (v := (2 : Int32)) dL_law_396 (by decide) ?_
  refine mD_iadd C (pc := 397) dL_law_397 ?_
  replace hK := mm_bd hK; obtain ⟨v398, e398, hK⟩ := hK
  refine mD_sald C (pc := 398) dL_law_398 e398 ?_
  refine mD_aload_n C (pc := 399) 3 dL_law_399 rfl ?_
  replace hK := mm_b2s hK; obtain ⟨v400, h400, e400, hK⟩ := hK
  refine mD_callSW C (pc := 400) (d1 := 8) (As := [va_rf l1, .int v392, .int v398, va_rf l3]) (st := []) (vk := (some (.int v400))) ((S_L_line (by omega)) e400) tT_L_line wd_1422 wd_1423 (by omega) (by decide) rfl (by simp [mm_crf, mm_cti, mm_ctl]) rfl dL_law_400 ?_
  show V _ _ (.int v400 :: _) _
  refine mD_istore C (pc := 403) (i := 5) (lv' := [(5, .int v400), (0, va_rf l0), (1, va_rf l1), (2, va_rf l2), (3, va_rf l3), (4, .int l4)]) dL_law_403 (by decide) rfl ?_
  refine mD_aload_n C (pc := 405) 3 dL_law_405 rfl ?_
  refine mD_aload_n C (pc := 406) 1 dL_law_406 rfl ?_
  refine mD_iload C (pc := 407) 5 dL_law_407 rfl ?_
  refine mD_iconst C (pc := 409) (v := (1 : Int32)) dL_law_409 (by decide) ?_
  refine mD_iadd C (pc := 410) dL_law_410 ?_
  replace hK := mm_bd hK; obtain ⟨v411, e411, hK⟩ := hK
  refine mD_sald C (pc := 411) dL_law_411 e411 ?_
  refine mD_aload_n C (pc := 412) 1 dL_law_412 rfl ?_
  refine mD_iload C (pc := 413) 5 dL_law_413 rfl ?_
  refine mD_iconst C (pc := 415) (v := (2 : Int32)) dL_law_415 (by decide) ?_
  refine mD_iadd C (pc := 416) dL_law_416 ?_
  replace hK := mm_bd hK; obtain ⟨v417, e417, hK⟩ := hK
  refine mD_sald C (pc := 417) dL_law_417 e417 ?_
  replace hK := mm_b2s hK; obtain ⟨v418, h418, e418, hK⟩ := hK
  obtain ⟨o418, e418⟩ := cV_some e418
  refine mD_callV C (pc := 418) (d1 := 3) (As := [.int v411, .int v417]) (st := []) (vk := (some (.int v418))) ((S_X12_line (by omega)) e418) tT_X12_line o418 (Or.inr ⟨_, rfl, rfl⟩) wd_2303 wd_2304 wd_2305 (by omega) (by decide) rfl (by simp [mm_crf, mm_cti, mm_ctl]) rfl dL_law_418 ?_
  show V _ _ (.int v418 :: _) _
  refine mD_istore C (pc := 421) (i := 6) (lv' := [(6, .int v418), (5, .int v400), (0, va_rf l0), (1, va_rf l1), (2, va_rf l2), (3, va_rf l3), (4, .int l4)]) dL_law_421 (by decide) rfl ?_
  refine mD_aload_n C (pc := 423) 4 dL_law_423 rfl ?_
  replace hK := mm_b2s hK; obtain ⟨v424, h424, e424, hK⟩ := hK
  obtain ⟨o424, e424⟩ := cV_some e424
  refine mD_callV C (pc := 424) (d1 := 1) (As := []) (st := []) (vk := (some (.int v424))) ((S_X12_thrown (by omega)) e424) tT_X12_thrown o424 (Or.inr ⟨_, rfl, rfl⟩) wd_2145 wd_2146 wd_2147 (by omega) (by decide) rfl (by simp [mm_crf, mm_cti, mm_ctl]) rfl dL_law_424 ?_
  show V _ _ (.int v424 :: _) _
  refine mD_iload C (pc := 427) 1 dL_law_427 rfl ?_
  refine mD_icmp_eq C (pc := 429) (tgt := 434) dL_law_429 (by decide) (fun hc => ?_) (fun hc => ?_)
  · replace hK := mm_ip hc hK
    refine mD_iload C (pc := 434) 1 dL_law_434 rfl ?_
    refine mD_if_ne C (pc := 436) (tgt := 451) dL_law_436 (by decide) (fun hc => ?_) (fun hc => ?_)
    · replace hK := mm_in hc hK
      refine mD_sub C [2, 3, 4, 5, 6] rfl ?_
      exact w_L_law_451 hd C (fun z0 z1 z2 z3 z4 z5 hK => q23 z0 z1 z2 z3 z4 z5 hK) _ _ _ _ _ _ hK
    · replace hK := mm_ip hc hK
      refine mD_aload_n C (pc := 439) 5 dL_law_439 rfl ?_
      refine mD_iconst C (pc := 440) (v := (0 : Int32)) dL_law_440 (by decide) ?_
      replace hK := mm_bd hK; obtain ⟨v441, e441, hK⟩ := hK
      refine mD_lald C (pc := 441) dL_law_441 e441 ?_
      refine mD_iload C (pc := 442) 0 dL_law_442 rfl ?_
      refine mD_i2l C (pc := 444) dL_law_444 ?_
      refine mD_lcmp C (pc := 445) dL_law_445 ?_
      refine mD_if_eq C (pc := 446) (tgt := 451) dL_law_446 (by decide) (fun hc => ?_) (fun hc => ?_)
      · replace hK := mm_ip hc hK
        refine mD_sub C [2, 3, 4, 5, 6] rfl ?_
        exact w_L_law_451 hd C (fun z0 z1 z2 z3 z4 z5 hK => q23 z0 z1 z2 z3 z4 z5 hK) _ _ _ _ _ _ hK
      · replace hK := mm_in hc hK
        refine mD_iconst C (pc := 449) (v := (0 : Int32)) dL_law_449 (by decide) ?_
        replace hK := rZ_some hK; obtain ⟨hv450, hK⟩ := hK
        cases hK
        exact mD_zret C (pc := 450) rfl (mm_nrZ hv450) dL_law_450 rfl rfl
  · replace hK := mm_in hc hK
    refine mD_iconst C (pc := 432) (v := (0 : Int32)) dL_law_432 (by decide) ?_
    replace hK := rZ_some hK; obtain ⟨hv433, hK⟩ := hK
    cases hK
    exact mD_zret C (pc := 433) rfl (mm_nrZ hv433) dL_law_433 rfl rfl
def F_L_law_519 (k23 : Option Nat → Option Nat → Option Nat → Option Nat → Int32 → MH → Option (Int32 × MH)) (l0 : Option Nat) (l1 : Option Nat) (l2 : Option Nat) (l3 : Option Nat) (l4 : Int32) (h : MH) : Option (Int32 × MH) := F_L_law_2603 k23 l0 l1 l2 l3 l4 h
set_option maxRecDepth 20000 in
set_option maxHeartbeats 4000000 in
theorem w_L_law_519 {d : Nat} {V : Nat → List (Nat × Value) → List Value → MH → Prop} {r : Int32} {hz : MH} {k23 : Option Nat → Option Nat → Option Nat → Option Nat → Int32 → MH → Option (Int32 × MH)} (hd : 141 ≤ d) (C : mm_D [] d yL_law cL_law 8 (some .boolean) (.inr (some (.int r))) hz V) (q23 : ∀ (x0 : Option Nat) (x1 : Option Nat) (x2 : Option Nat) (x3 : Option Nat) (x4 : Int32) (h : MH), k23 x0 x1 x2 x3 x4 h = some (r, hz) → V 23 [(0, va_rf x0), (1, va_rf x1), (2, va_rf x2), (3, va_rf x3), (4, .int x4)] [] h) (l0 : Option Nat) (l1 : Option Nat) (l2 : Option Nat) (l3 : Option Nat) (l4 : Int32) (h : MH) (hK : F_L_law_519 k23 l0 l1 l2 l3 l4 h = some (r, hz)) : V 519 [(0, va_rf l0), (1, va_rf l1), (2, va_rf l2), (3, va_rf l3), (4, .int l4)] [] h := by
  unfold F_L_law_519 at hK
  refine mD_goto C (pc := 519) (tgt := 2603) dL_law_519 (by decide) ?_
  exact w_L_law_2603 hd C (fun z0 z1 z2 z3 z4 z5 hK => q23 z0 z1 z2 z3 z4 z5 hK) _ _ _ _ _ _ hK
def F_L_law_454 (k23 : Option Nat → Option Nat → Option Nat → Option Nat → Int32 → MH → Option (Int32 × MH)) (l0 : Option Nat) (l1 : Option Nat) (l2 : Option Nat) (l3 : Option Nat) (l4 : Int32) (h : MH) : Option (Int32 × MH) := (aS h l0 (l4 + (1 : Int32))).bind fun v460 => (aS h l0 (l4 + (2 : Int32))).bind fun v466 => mm_b2 (F_L_cord l1 v460 v466 l3 h) fun v468 h468 => (aS h468 l0 (l4 + (1 : Int32))).bind fun v479 => (aS h468 l0 (l4 + (2 : Int32))).bind fun v485 => mm_b2 (cV h468 l2 12 (F_X12_cord l2 v479 v485 h468)) fun v486 h486 => mm_b2 (cV h486 l2 12 (F_X12_thrown l2 h486)) fun v492 h492 => if v492 = v468 then (if v468 = 0 then ((aL h492 l3 (0 : Int32)).bind fun v509 => if (lg_cmp v509 (v486.toInt64)) = 0 then (F_L_law_519 k23 l0 l1 l2 l3 l4 h492) else (rZ (0 : Int32) h492)) else (F_L_law_519 k23 l0 l1 l2 l3 l4 h492)) else (rZ (0 : Int32) h492)
set_option maxRecDepth 20000 in
set_option maxHeartbeats 4000000 in
theorem w_L_law_454 {d : Nat} {V : Nat → List (Nat × Value) → List Value → MH → Prop} {r : Int32} {hz : MH} {k23 : Option Nat → Option Nat → Option Nat → Option Nat → Int32 → MH → Option (Int32 × MH)} (hd : 141 ≤ d) (C : mm_D [] d yL_law cL_law 8 (some .boolean) (.inr (some (.int r))) hz V) (q23 : ∀ (x0 : Option Nat) (x1 : Option Nat) (x2 : Option Nat) (x3 : Option Nat) (x4 : Int32) (h : MH), k23 x0 x1 x2 x3 x4 h = some (r, hz) → V 23 [(0, va_rf x0), (1, va_rf x1), (2, va_rf x2), (3, va_rf x3), (4, .int x4)] [] h) (l0 : Option Nat) (l1 : Option Nat) (l2 : Option Nat) (l3 : Option Nat) (l4 : Int32) (h : MH) (hK : F_L_law_454 k23 l0 l1 l2 l3 l4 h = some (r, hz)) : V 454 [(0, va_rf l0), (1, va_rf l1), (2, va_rf l2), (3, va_rf l3), (4, .int l4)] [] h := by
  unfold F_L_law_454 at hK
  refine mD_aload_n C (pc := 454) 1 dL_law_454 rfl ?_
  refine mD_aload_n C (pc := 455) 0 dL_law_455 rfl ?_
  refine mD_iload C (pc := 456) 4 dL_law_456 rfl ?_
  refine mD_iconst C (pc := 458) (v := (1 : Int32)) dL_law_458 (by decide) ?_
  refine mD_iadd C (pc := 459) dL_law_459 ?_
  replace hK := mm_bd hK; obtain ⟨v460, e460, hK⟩ := hK
  refine mD_sald C (pc := 460) dL_law_460 e460 ?_
  refine mD_aload_n C (pc := 461) 0 dL_law_461 rfl ?_
  refine mD_iload C (pc := 462) 4 dL_law_462 rfl ?_
  refine mD_iconst C (pc := 464) (v := (2 : Int32)) dL_law_464 (by decide) ?_
  refine mD_iadd C (pc := 465) dL_law_465 ?_
  replace hK := mm_bd hK; obtain ⟨v466, e466, hK⟩ := hK
  refine mD_sald C (pc := 466) dL_law_466 e466 ?_
  refine mD_aload_n C (pc := 467) 3 dL_law_467 rfl ?_
  replace hK := mm_b2s hK; obtain ⟨v468, h468, e468, hK⟩ := hK
  refine mD_callSW C (pc := 468) (d1 := 8) (As := [va_rf l1, .int v460, .int v466, va_rf l3]) (st := []) (vk := (some (.int v468))) ((S_L_cord (by omega)) e468) tT_L_cord wd_1455 wd_1456 (by omega) (by decide) rfl (by simp [mm_crf, mm_cti, mm_ctl]) rfl dL_law_468 ?_
  show V _ _ (.int v468 :: _) _
  refine mD_istore C (pc := 471) (i := 5) (lv' := [(5, .int v468), (0, va_rf l0), (1, va_rf l1), (2, va_rf l2), (3, va_rf l3), (4, .int l4)]) dL_law_471 (by decide) rfl ?_
  refine mD_aload_n C (pc := 473) 3 dL_law_473 rfl ?_
  refine mD_aload_n C (pc := 474) 1 dL_law_474 rfl ?_
  refine mD_iload C (pc := 475) 5 dL_law_475 rfl ?_
  refine mD_iconst C (pc := 477) (v := (1 : Int32)) dL_law_477 (by decide) ?_
  refine mD_iadd C (pc := 478) dL_law_478 ?_
  replace hK := mm_bd hK; obtain ⟨v479, e479, hK⟩ := hK
  refine mD_sald C (pc := 479) dL_law_479 e479 ?_
  refine mD_aload_n C (pc := 480) 1 dL_law_480 rfl ?_
  refine mD_iload C (pc := 481) 5 dL_law_481 rfl ?_
  refine mD_iconst C (pc := 483) (v := (2 : Int32)) dL_law_483 (by decide) ?_
  refine mD_iadd C (pc := 484) dL_law_484 ?_
  replace hK := mm_bd hK; obtain ⟨v485, e485, hK⟩ := hK
  refine mD_sald C (pc := 485) dL_law_485 e485 ?_
  replace hK := mm_b2s hK; obtain ⟨v486, h486, e486, hK⟩ := hK
  obtain ⟨o486, e486⟩ := cV_some e486
  refine mD_callV C (pc := 486) (d1 := 3) (As := [.int v479, .int v485]) (st := []) (vk := (some (.int v486))) ((S_X12_cord (by omega)) e486) tT_X12_cord o486 (Or.inr ⟨_, rfl, rfl⟩) wd_2323 wd_2324 wd_2325 (by omega) (by decide) rfl (by simp [mm_crf, mm_cti, mm_ctl]) rfl dL_law_486 ?_
  show V _ _ (.int v486 :: _) _
  refine mD_istore C (pc := 489) (i := 6) (lv' := [(6, .int v486), (5, .int v468), (0, va_rf l0), (1, va_rf l1), (2, va_rf l2), (3, va_rf l3), (4, .int l4)]) dL_law_489 (by decide) rfl ?_
  refine mD_aload_n C (pc := 491) 4 dL_law_491 rfl ?_
  replace hK := mm_b2s hK; obtain ⟨v492, h492, e492, hK⟩ := hK
  obtain ⟨o492, e492⟩ := cV_some e492
  refine mD_callV C (pc := 492) (d1 := 1) (As := []) (st := []) (vk := (some (.int v492))) ((S_X12_thrown (by omega)) e492) tT_X12_thrown o492 (Or.inr ⟨_, rfl, rfl⟩) wd_2145 wd_2146 wd_2147 (by omega) (by decide) rfl (by simp [mm_crf, mm_cti, mm_ctl]) rfl dL_law_492 ?_
  show V _ _ (.int v492 :: _) _
  refine mD_iload C (pc := 495) 1 dL_law_495 rfl ?_
  refine mD_icmp_eq C (pc := 497) (tgt := 502) dL_law_497 (by decide) (fun hc => ?_) (fun hc => ?_)
  · replace hK := mm_ip hc hK
    refine mD_iload C (pc := 502) 1 dL_law_502 rfl ?_
    refine mD_if_ne C (pc := 504) (tgt := 519) dL_law_504 (by decide) (fun hc => ?_) (fun hc => ?_)
    · replace hK := mm_in hc hK
      refine mD_sub C [2, 3, 4, 5, 6] rfl ?_
      exact w_L_law_519 hd C (fun z0 z1 z2 z3 z4 z5 hK => q23 z0 z1 z2 z3 z4 z5 hK) _ _ _ _ _ _ hK
    · replace hK := mm_ip hc hK
      refine mD_aload_n C (pc := 507) 5 dL_law_507 rfl ?_
      refine mD_iconst C (pc := 508) (v := (0 : Int32)) dL_law_508 (by decide) ?_
      replace hK := mm_bd hK; obtain ⟨v509, e509, hK⟩ := hK
      refine mD_lald C (pc := 509) dL_law_509 e509 ?_
      refine mD_iload C (pc := 510) 0 dL_law_510 rfl ?_
      refine mD_i2l C (pc := 512) dL_law_512 ?_
      refine mD_lcmp C (pc := 513) dL_law_513 ?_
      refine mD_if_eq C (pc := 514) (tgt := 519) dL_law_514 (by decide) (fun hc => ?_) (fun hc => ?_)
      · replace hK := mm_ip hc hK
        refine mD_sub C [2, 3, 4, 5, 6] rfl ?_
        exact w_L_law_519 hd C (fun z0 z1 z2 z3 z4 z5 hK => q23 z0 z1 z2 z3 z4 z5 hK) _ _ _ _ _ _ hK
      · replace hK := mm_in hc hK
        refine mD_iconst C (pc := 517) (v := (0 : Int32)) dL_law_517 (by decide) ?_
        replace hK := rZ_some hK; obtain ⟨hv518, hK⟩ := hK
        cases hK
        exact mD_zret C (pc := 518) rfl (mm_nrZ hv518) dL_law_518 rfl rfl
  · replace hK := mm_in hc hK
    refine mD_iconst C (pc := 500) (v := (0 : Int32)) dL_law_500 (by decide) ?_
    replace hK := rZ_some hK; obtain ⟨hv501, hK⟩ := hK
    cases hK
    exact mD_zret C (pc := 501) rfl (mm_nrZ hv501) dL_law_501 rfl rfl
def F_L_law_587 (k23 : Option Nat → Option Nat → Option Nat → Option Nat → Int32 → MH → Option (Int32 × MH)) (l0 : Option Nat) (l1 : Option Nat) (l2 : Option Nat) (l3 : Option Nat) (l4 : Int32) (h : MH) : Option (Int32 × MH) := F_L_law_2603 k23 l0 l1 l2 l3 l4 h
set_option maxRecDepth 20000 in
set_option maxHeartbeats 4000000 in
theorem w_L_law_587 {d : Nat} {V : Nat → List (Nat × Value) → List Value → MH → Prop} {r : Int32} {hz : MH} {k23 : Option Nat → Option Nat → Option Nat → Option Nat → Int32 → MH → Option (Int32 × MH)} (hd : 141 ≤ d) (C : mm_D [] d yL_law cL_law 8 (some .boolean) (.inr (some (.int r))) hz V) (q23 : ∀ (x0 : Option Nat) (x1 : Option Nat) (x2 : Option Nat) (x3 : Option Nat) (x4 : Int32) (h : MH), k23 x0 x1 x2 x3 x4 h = some (r, hz) → V 23 [(0, va_rf x0), (1, va_rf x1), (2, va_rf x2), (3, va_rf x3), (4, .int x4)] [] h) (l0 : Option Nat) (l1 : Option Nat) (l2 : Option Nat) (l3 : Option Nat) (l4 : Int32) (h : MH) (hK : F_L_law_587 k23 l0 l1 l2 l3 l4 h = some (r, hz)) : V 587 [(0, va_rf l0), (1, va_rf l1), (2, va_rf l2), (3, va_rf l3), (4, .int l4)] [] h := by
  unfold F_L_law_587 at hK
  refine mD_goto C (pc := 587) (tgt := 2603) dL_law_587 (by decide) ?_
  exact w_L_law_2603 hd C (fun z0 z1 z2 z3 z4 z5 hK => q23 z0 z1 z2 z3 z4 z5 hK) _ _ _ _ _ _ hK
def F_L_law_522 (k23 : Option Nat → Option Nat → Option Nat → Option Nat → Int32 → MH → Option (Int32 × MH)) (l0 : Option Nat) (l1 : Option Nat) (l2 : Option Nat) (l3 : Option Nat) (l4 : Int32) (h : MH) : Option (Int32 × MH) := (aS h l0 (l4 + (1 : Int32))).bind fun v528 => (aS h l0 (l4 + (2 : Int32))).bind fun v534 => mm_b2 (F_L_call l1 v528 v534 l3 h) fun v536 h536 => (aS h536 l0 (l4 + (1 : Int32))).bind fun v547 => (aS h536 l0 (l4 + (2 : Int32))).bind fun v553 => mm_b2 (cV h536 l2 12 (F_X12_call l2 v547 v553 h536)) fun v554 h554 => mm_b2 (cV h554 l2 12 (F_X12_thrown l2 h554)) fun v560 h560 => if v560 = v536 then (if v536 = 0 then ((aL h560 l3 (0 : Int32)).bind fun v577 => if (lg_cmp v577 (v554.toInt64)) = 0 then (F_L_law_587 k23 l0 l1 l2 l3 l4 h560) else (rZ (0 : Int32) h560)) else (F_L_law_587 k23 l0 l1 l2 l3 l4 h560)) else (rZ (0 : Int32) h560)
set_option maxRecDepth 20000 in
set_option maxHeartbeats 4000000 in
theorem w_L_law_522 {d : Nat} {V : Nat → List (Nat × Value) → List Value → MH → Prop} {r : Int32} {hz : MH} {k23 : Option Nat → Option Nat → Option Nat → Option Nat → Int32 → MH → Option (Int32 × MH)} (hd : 141 ≤ d) (C : mm_D [] d yL_law cL_law 8 (some .boolean) (.inr (some (.int r))) hz V) (q23 : ∀ (x0 : Option Nat) (x1 : Option Nat) (x2 : Option Nat) (x3 : Option Nat) (x4 : Int32) (h : MH), k23 x0 x1 x2 x3 x4 h = some (r, hz) → V 23 [(0, va_rf x0), (1, va_rf x1), (2, va_rf x2), (3, va_rf x3), (4, .int x4)] [] h) (l0 : Option Nat) (l1 : Option Nat) (l2 : Option Nat) (l3 : Option Nat) (l4 : Int32) (h : MH) (hK : F_L_law_522 k23 l0 l1 l2 l3 l4 h = some (r, hz)) : V 522 [(0, va_rf l0), (1, va_rf l1), (2, va_rf l2), (3, va_rf l3), (4, .int l4)] [] h := by
  unfold F_L_law_522 at hK
  refine mD_aload_n C (pc := 522) 1 dL_law_522 rfl ?_
  refine mD_aload_n C (pc := 523) 0 dL_law_523 rfl ?_
  refine mD_iload C (pc := 524) 4 dL_law_524 rfl ?_
  refine mD_iconst C (pc := 526) (v := (1 : Int32)) dL_law_526 (by decide) ?_
  refine mD_iadd C (pc := 527) dL_law_527 ?_
  replace hK := mm_bd hK; obtain ⟨v528, e528, hK⟩ := hK
  refine mD_sald C (pc := 528) dL_law_528 e528 ?_
  refine mD_aload_n C (pc := 529) 0 dL_law_529 rfl ?_
  refine mD_iload C (pc := 530) 4 dL_law_530 rfl ?_
  refine mD_iconst C (pc := 532) (v := (2 : Int32)) dL_law_532 (by decide) ?_
  refine mD_iadd C (pc := 533) dL_law_533 ?_
  replace hK := mm_bd hK; obtain ⟨v534, e534, hK⟩ := hK
  refine mD_sald C (pc := 534) dL_law_534 e534 ?_
  refine mD_aload_n C (pc := 535) 3 dL_law_535 rfl ?_
  replace hK := mm_b2s hK; obtain ⟨v536, h536, e536, hK⟩ := hK
  refine mD_callSW C (pc := 536) (d1 := 8) (As := [va_rf l1, .int v528, .int v534, va_rf l3]) (st := []) (vk := (some (.int v536))) ((S_L_call (by omega)) e536) tT_L_call wd_1471 wd_1472 (by omega) (by decide) rfl (by simp [mm_crf, mm_cti, mm_ctl]) rfl dL_law_536 ?_
  show V _ _ (.int v536 :: _) _
  refine mD_istore C (pc := 539) (i := 5) (lv' := [(5, .int v536), (0, va_rf l0), (1, va_rf l1), (2, va_rf l2), (3, va_rf l3), (4, .int l4)]) dL_law_539 (by decide) rfl ?_
  refine mD_aload_n C (pc := 541) 3 dL_law_541 rfl ?_
  refine mD_aload_n C (pc := 542) 1 dL_law_542 rfl ?_
  refine mD_iload C (pc := 543) 5 dL_law_543 rfl ?_
  refine mD_iconst C (pc := 545) (v := (1 : Int32)) dL_law_545 (by decide) ?_
  refine mD_iadd C (pc := 546) dL_law_546 ?_
  replace hK := mm_bd hK; obtain ⟨v547, e547, hK⟩ := hK
  refine mD_sald C (pc := 547) dL_law_547 e547 ?_
  refine mD_aload_n C (pc := 548) 1 dL_law_548 rfl ?_
  refine mD_iload C (pc := 549) 5 dL_law_549 rfl ?_
  refine mD_iconst C (pc := 551) (v := (2 : Int32)) dL_law_551 (by decide) ?_
  refine mD_iadd C (pc := 552) dL_law_552 ?_
  replace hK := mm_bd hK; obtain ⟨v553, e553, hK⟩ := hK
  refine mD_sald C (pc := 553) dL_law_553 e553 ?_
  replace hK := mm_b2s hK; obtain ⟨v554, h554, e554, hK⟩ := hK
  obtain ⟨o554, e554⟩ := cV_some e554
  refine mD_callV C (pc := 554) (d1 := 3) (As := [.int v547, .int v553]) (st := []) (vk := (some (.int v554))) ((S_X12_call (by omega)) e554) tT_X12_call o554 (Or.inr ⟨_, rfl, rfl⟩) wd_2331 wd_2332 wd_2333 (by omega) (by decide) rfl (by simp [mm_crf, mm_cti, mm_ctl]) rfl dL_law_554 ?_
  show V _ _ (.int v554 :: _) _
  refine mD_istore C (pc := 557) (i := 6) (lv' := [(6, .int v554), (5, .int v536), (0, va_rf l0), (1, va_rf l1), (2, va_rf l2), (3, va_rf l3), (4, .int l4)]) dL_law_557 (by decide) rfl ?_
  refine mD_aload_n C (pc := 559) 4 dL_law_559 rfl ?_
  replace hK := mm_b2s hK; obtain ⟨v560, h560, e560, hK⟩ := hK
  obtain ⟨o560, e560⟩ := cV_some e560
  refine mD_callV C (pc := 560) (d1 := 1) (As := []) (st := []) (vk := (some (.int v560))) ((S_X12_thrown (by omega)) e560) tT_X12_thrown o560 (Or.inr ⟨_, rfl, rfl⟩) wd_2145 wd_2146 wd_2147 (by omega) (by decide) rfl (by simp [mm_crf, mm_cti, mm_ctl]) rfl dL_law_560 ?_
  show V _ _ (.int v560 :: _) _
  refine mD_iload C (pc := 563) 1 dL_law_563 rfl ?_
  refine mD_icmp_eq C (pc := 565) (tgt := 570) dL_law_565 (by decide) (fun hc => ?_) (fun hc => ?_)
  · replace hK := mm_ip hc hK
    refine mD_iload C (pc := 570) 1 dL_law_570 rfl ?_
    refine mD_if_ne C (pc := 572) (tgt := 587) dL_law_572 (by decide) (fun hc => ?_) (fun hc => ?_)
    · replace hK := mm_in hc hK
      refine mD_sub C [2, 3, 4, 5, 6] rfl ?_
      exact w_L_law_587 hd C (fun z0 z1 z2 z3 z4 z5 hK => q23 z0 z1 z2 z3 z4 z5 hK) _ _ _ _ _ _ hK
    · replace hK := mm_ip hc hK
      refine mD_aload_n C (pc := 575) 5 dL_law_575 rfl ?_
      refine mD_iconst C (pc := 576) (v := (0 : Int32)) dL_law_576 (by decide) ?_
      replace hK := mm_bd hK; obtain ⟨v577, e577, hK⟩ := hK
      refine mD_lald C (pc := 577) dL_law_577 e577 ?_
      refine mD_iload C (pc := 578) 0 dL_law_578 rfl ?_
      refine mD_i2l C (pc := 580) dL_law_580 ?_
      refine mD_lcmp C (pc := 581) dL_law_581 ?_
      refine mD_if_eq C (pc := 582) (tgt := 587) dL_law_582 (by decide) (fun hc => ?_) (fun hc => ?_)
      · replace hK := mm_ip hc hK
        refine mD_sub C [2, 3, 4, 5, 6] rfl ?_
        exact w_L_law_587 hd C (fun z0 z1 z2 z3 z4 z5 hK => q23 z0 z1 z2 z3 z4 z5 hK) _ _ _ _ _ _ hK
      · replace hK := mm_in hc hK
        refine mD_iconst C (pc := 585) (v := (0 : Int32)) dL_law_585 (by decide) ?_
        replace hK := rZ_some hK; obtain ⟨hv586, hK⟩ := hK
        cases hK
        exact mD_zret C (pc := 586) rfl (mm_nrZ hv586) dL_law_586 rfl rfl
  · replace hK := mm_in hc hK
    refine mD_iconst C (pc := 568) (v := (0 : Int32)) dL_law_568 (by decide) ?_
    replace hK := rZ_some hK; obtain ⟨hv569, hK⟩ := hK
    cases hK
    exact mD_zret C (pc := 569) rfl (mm_nrZ hv569) dL_law_569 rfl rfl
def F_L_law_655 (k23 : Option Nat → Option Nat → Option Nat → Option Nat → Int32 → MH → Option (Int32 × MH)) (l0 : Option Nat) (l1 : Option Nat) (l2 : Option Nat) (l3 : Option Nat) (l4 : Int32) (h : MH) : Option (Int32 × MH) := F_L_law_2603 k23 l0 l1 l2 l3 l4 h
set_option maxRecDepth 20000 in
set_option maxHeartbeats 4000000 in
theorem w_L_law_655 {d : Nat} {V : Nat → List (Nat × Value) → List Value → MH → Prop} {r : Int32} {hz : MH} {k23 : Option Nat → Option Nat → Option Nat → Option Nat → Int32 → MH → Option (Int32 × MH)} (hd : 141 ≤ d) (C : mm_D [] d yL_law cL_law 8 (some .boolean) (.inr (some (.int r))) hz V) (q23 : ∀ (x0 : Option Nat) (x1 : Option Nat) (x2 : Option Nat) (x3 : Option Nat) (x4 : Int32) (h : MH), k23 x0 x1 x2 x3 x4 h = some (r, hz) → V 23 [(0, va_rf x0), (1, va_rf x1), (2, va_rf x2), (3, va_rf x3), (4, .int x4)] [] h) (l0 : Option Nat) (l1 : Option Nat) (l2 : Option Nat) (l3 : Option Nat) (l4 : Int32) (h : MH) (hK : F_L_law_655 k23 l0 l1 l2 l3 l4 h = some (r, hz)) : V 655 [(0, va_rf l0), (1, va_rf l1), (2, va_rf l2), (3, va_rf l3), (4, .int l4)] [] h := by
  unfold F_L_law_655 at hK
  refine mD_goto C (pc := 655) (tgt := 2603) dL_law_655 (by decide) ?_
  exact w_L_law_2603 hd C (fun z0 z1 z2 z3 z4 z5 hK => q23 z0 z1 z2 z3 z4 z5 hK) _ _ _ _ _ _ hK
def F_L_law_590 (k23 : Option Nat → Option Nat → Option Nat → Option Nat → Int32 → MH → Option (Int32 × MH)) (l0 : Option Nat) (l1 : Option Nat) (l2 : Option Nat) (l3 : Option Nat) (l4 : Int32) (h : MH) : Option (Int32 × MH) := (aS h l0 (l4 + (1 : Int32))).bind fun v596 => (aS h l0 (l4 + (2 : Int32))).bind fun v602 => mm_b2 (F_L_likes l1 v596 v602 l3 h) fun v604 h604 => (aS h604 l0 (l4 + (1 : Int32))).bind fun v615 => (aS h604 l0 (l4 + (2 : Int32))).bind fun v621 => mm_b2 (cV h604 l2 12 (F_X12_likes l2 v615 v621 h604)) fun v622 h622 => mm_b2 (cV h622 l2 12 (F_X12_thrown l2 h622)) fun v628 h628 => if v628 = v604 then (if v604 = 0 then ((aL h628 l3 (0 : Int32)).bind fun v645 => if (lg_cmp v645 (v622.toInt64)) = 0 then (F_L_law_655 k23 l0 l1 l2 l3 l4 h628) else (rZ (0 : Int32) h628)) else (F_L_law_655 k23 l0 l1 l2 l3 l4 h628)) else (rZ (0 : Int32) h628)
set_option maxRecDepth 20000 in
set_option maxHeartbeats 4000000 in
theorem w_L_law_590 {d : Nat} {V : Nat → List (Nat × Value) → List Value → MH → Prop} {r : Int32} {hz : MH} {k23 : Option Nat → Option Nat → Option Nat → Option Nat → Int32 → MH → Option (Int32 × MH)} (hd : 141 ≤ d) (C : mm_D [] d yL_law cL_law 8 (some .boolean) (.inr (some (.int r))) hz V) (q23 : ∀ (x0 : Option Nat) (x1 : Option Nat) (x2 : Option Nat) (x3 : Option Nat) (x4 : Int32) (h : MH), k23 x0 x1 x2 x3 x4 h = some (r, hz) → V 23 [(0, va_rf x0), (1, va_rf x1), (2, va_rf x2), (3, va_rf x3), (4, .int x4)] [] h) (l0 : Option Nat) (l1 : Option Nat) (l2 : Option Nat) (l3 : Option Nat) (l4 : Int32) (h : MH) (hK : F_L_law_590 k23 l0 l1 l2 l3 l4 h = some (r, hz)) : V 590 [(0, va_rf l0), (1, va_rf l1), (2, va_rf l2), (3, va_rf l3), (4, .int l4)] [] h := by
  unfold F_L_law_590 at hK
  refine mD_aload_n C (pc := 590) 1 dL_law_590 rfl ?_
  refine mD_aload_n C (pc := 591) 0 dL_law_591 rfl ?_
  refine mD_iload C (pc := 592) 4 dL_law_592 rfl ?_
  refine mD_iconst C (pc := 594) (v := (1 : Int32)) dL_law_594 (by decide) ?_
  refine mD_iadd C (pc := 595) dL_law_595 ?_
  replace hK := mm_bd hK; obtain ⟨v596, e596, hK⟩ := hK
  refine mD_sald C (pc := 596) dL_law_596 e596 ?_
  refine mD_aload_n C (pc := 597) 0 dL_law_597 rfl ?_
  refine mD_iload C (pc := 598) 4 dL_law_598 rfl ?_
  refine mD_iconst C (pc := 600) (v := (2 : Int32)) dL_law_600 (by decide) ?_
  refine mD_iadd C (pc := 601) dL_law_601 ?_
  replace hK := mm_bd hK; obtain ⟨v602, e602, hK⟩ := hK
  refine mD_sald C (pc := 602) dL_law_602 e602 ?_
  refine mD_aload_n C (pc := 603) 3 dL_law_603 rfl ?_
  replace hK := mm_b2s hK; obtain ⟨v604, h604, e604, hK⟩ := hK
  refine mD_callSW C (pc := 604) (d1 := 8) (As := [va_rf l1, .int v596, .int v602, va_rf l3]) (st := []) (vk := (some (.int v604))) ((S_L_likes (by omega)) e604) tT_L_likes wd_1483 wd_1484 (by omega) (by decide) rfl (by simp [mm_crf, mm_cti, mm_ctl]) rfl dL_law_604 ?_
  show V _ _ (.int v604 :: _) _
  refine mD_istore C (pc := 607) (i := 5) (lv' := [(5, .int v604), (0, va_rf l0), (1, va_rf l1), (2, va_rf l2), (3, va_rf l3), (4, .int l4)]) dL_law_607 (by decide) rfl ?_
  refine mD_aload_n C (pc := 609) 3 dL_law_609 rfl ?_
  refine mD_aload_n C (pc := 610) 1 dL_law_610 rfl ?_
  refine mD_iload C (pc := 611) 5 dL_law_611 rfl ?_
  refine mD_iconst C (pc := 613) (v := (1 : Int32)) dL_law_613 (by decide) ?_
  refine mD_iadd C (pc := 614) dL_law_614 ?_
  replace hK := mm_bd hK; obtain ⟨v615, e615, hK⟩ := hK
  refine mD_sald C (pc := 615) dL_law_615 e615 ?_
  refine mD_aload_n C (pc := 616) 1 dL_law_616 rfl ?_
  refine mD_iload C (pc := 617) 5 dL_law_617 rfl ?_
  refine mD_iconst C (pc := 619) (v := (2 : Int32)) dL_law_619 (by decide) ?_
  refine mD_iadd C (pc := 620) dL_law_620 ?_
  replace hK := mm_bd hK; obtain ⟨v621, e621, hK⟩ := hK
  refine mD_sald C (pc := 621) dL_law_621 e621 ?_
  replace hK := mm_b2s hK; obtain ⟨v622, h622, e622, hK⟩ := hK
  obtain ⟨o622, e622⟩ := cV_some e622
  refine mD_callV C (pc := 622) (d1 := 5) (As := [.int v615, .int v621]) (st := []) (vk := (some (.int v622))) ((S_X12_likes (by omega)) e622) tT_X12_likes o622 (Or.inr ⟨_, rfl, rfl⟩) wd_2340 wd_2341 wd_2342 (by omega) (by decide) rfl (by simp [mm_crf, mm_cti, mm_ctl]) rfl dL_law_622 ?_
  show V _ _ (.int v622 :: _) _
  refine mD_istore C (pc := 625) (i := 6) (lv' := [(6, .int v622), (5, .int v604), (0, va_rf l0), (1, va_rf l1), (2, va_rf l2), (3, va_rf l3), (4, .int l4)]) dL_law_625 (by decide) rfl ?_
  refine mD_aload_n C (pc := 627) 4 dL_law_627 rfl ?_
  replace hK := mm_b2s hK; obtain ⟨v628, h628, e628, hK⟩ := hK
  obtain ⟨o628, e628⟩ := cV_some e628
  refine mD_callV C (pc := 628) (d1 := 1) (As := []) (st := []) (vk := (some (.int v628))) ((S_X12_thrown (by omega)) e628) tT_X12_thrown o628 (Or.inr ⟨_, rfl, rfl⟩) wd_2145 wd_2146 wd_2147 (by omega) (by decide) rfl (by simp [mm_crf, mm_cti, mm_ctl]) rfl dL_law_628 ?_
  show V _ _ (.int v628 :: _) _
  refine mD_iload C (pc := 631) 1 dL_law_631 rfl ?_
  refine mD_icmp_eq C (pc := 633) (tgt := 638) dL_law_633 (by decide) (fun hc => ?_) (fun hc => ?_)
  · replace hK := mm_ip hc hK
    refine mD_iload C (pc := 638) 1 dL_law_638 rfl ?_
    refine mD_if_ne C (pc := 640) (tgt := 655) dL_law_640 (by decide) (fun hc => ?_) (fun hc => ?_)
    · replace hK := mm_in hc hK
      refine mD_sub C [2, 3, 4, 5, 6] rfl ?_
      exact w_L_law_655 hd C (fun z0 z1 z2 z3 z4 z5 hK => q23 z0 z1 z2 z3 z4 z5 hK) _ _ _ _ _ _ hK
    · replace hK := mm_ip hc hK
      refine mD_aload_n C (pc := 643) 5 dL_law_643 rfl ?_
      refine mD_iconst C (pc := 644) (v := (0 : Int32)) dL_law_644 (by decide) ?_
      replace hK := mm_bd hK; obtain ⟨v645, e645, hK⟩ := hK
      refine mD_lald C (pc := 645) dL_law_645 e645 ?_
      refine mD_iload C (pc := 646) 0 dL_law_646 rfl ?_
      refine mD_i2l C (pc := 648) dL_law_648 ?_
      refine mD_lcmp C (pc := 649) dL_law_649 ?_
      refine mD_if_eq C (pc := 650) (tgt := 655) dL_law_650 (by decide) (fun hc => ?_) (fun hc => ?_)
      · replace hK := mm_ip hc hK
        refine mD_sub C [2, 3, 4, 5, 6] rfl ?_
        exact w_L_law_655 hd C (fun z0 z1 z2 z3 z4 z5 hK => q23 z0 z1 z2 z3 z4 z5 hK) _ _ _ _ _ _ hK
      · replace hK := mm_in hc hK
        refine mD_iconst C (pc := 653) (v := (0 : Int32)) dL_law_653 (by decide) ?_
        replace hK := rZ_some hK; obtain ⟨hv654, hK⟩ := hK
        cases hK
        exact mD_zret C (pc := 654) rfl (mm_nrZ hv654) dL_law_654 rfl rfl
  · replace hK := mm_in hc hK
    refine mD_iconst C (pc := 636) (v := (0 : Int32)) dL_law_636 (by decide) ?_
    replace hK := rZ_some hK; obtain ⟨hv637, hK⟩ := hK
    cases hK
    exact mD_zret C (pc := 637) rfl (mm_nrZ hv637) dL_law_637 rfl rfl
def F_L_law_723 (k23 : Option Nat → Option Nat → Option Nat → Option Nat → Int32 → MH → Option (Int32 × MH)) (l0 : Option Nat) (l1 : Option Nat) (l2 : Option Nat) (l3 : Option Nat) (l4 : Int32) (h : MH) : Option (Int32 × MH) := F_L_law_2603 k23 l0 l1 l2 l3 l4 h
set_option maxRecDepth 20000 in
set_option maxHeartbeats 4000000 in
theorem w_L_law_723 {d : Nat} {V : Nat → List (Nat × Value) → List Value → MH → Prop} {r : Int32} {hz : MH} {k23 : Option Nat → Option Nat → Option Nat → Option Nat → Int32 → MH → Option (Int32 × MH)} (hd : 141 ≤ d) (C : mm_D [] d yL_law cL_law 8 (some .boolean) (.inr (some (.int r))) hz V) (q23 : ∀ (x0 : Option Nat) (x1 : Option Nat) (x2 : Option Nat) (x3 : Option Nat) (x4 : Int32) (h : MH), k23 x0 x1 x2 x3 x4 h = some (r, hz) → V 23 [(0, va_rf x0), (1, va_rf x1), (2, va_rf x2), (3, va_rf x3), (4, .int x4)] [] h) (l0 : Option Nat) (l1 : Option Nat) (l2 : Option Nat) (l3 : Option Nat) (l4 : Int32) (h : MH) (hK : F_L_law_723 k23 l0 l1 l2 l3 l4 h = some (r, hz)) : V 723 [(0, va_rf l0), (1, va_rf l1), (2, va_rf l2), (3, va_rf l3), (4, .int l4)] [] h := by
  unfold F_L_law_723 at hK
  refine mD_goto C (pc := 723) (tgt := 2603) dL_law_723 (by decide) ?_
  exact w_L_law_2603 hd C (fun z0 z1 z2 z3 z4 z5 hK => q23 z0 z1 z2 z3 z4 z5 hK) _ _ _ _ _ _ hK
def F_L_law_658 (k23 : Option Nat → Option Nat → Option Nat → Option Nat → Int32 → MH → Option (Int32 × MH)) (l0 : Option Nat) (l1 : Option Nat) (l2 : Option Nat) (l3 : Option Nat) (l4 : Int32) (h : MH) : Option (Int32 × MH) := (aS h l0 (l4 + (1 : Int32))).bind fun v664 => (aS h l0 (l4 + (2 : Int32))).bind fun v670 => mm_b2 (F_L_comesTo l1 v664 v670 l3 h) fun v672 h672 => (aS h672 l0 (l4 + (1 : Int32))).bind fun v683 => (aS h672 l0 (l4 + (2 : Int32))).bind fun v689 => mm_b2 (cV h672 l2 12 (F_X12_comesTo l2 v683 v689 h672)) fun v690 h690 => mm_b2 (cV h690 l2 12 (F_X12_thrown l2 h690)) fun v696 h696 => if v696 = v672 then (if v672 = 0 then ((aL h696 l3 (0 : Int32)).bind fun v713 => if (lg_cmp v713 (v690.toInt64)) = 0 then (F_L_law_723 k23 l0 l1 l2 l3 l4 h696) else (rZ (0 : Int32) h696)) else (F_L_law_723 k23 l0 l1 l2 l3 l4 h696)) else (rZ (0 : Int32) h696)
set_option maxRecDepth 20000 in
set_option maxHeartbeats 4000000 in
theorem w_L_law_658 {d : Nat} {V : Nat → List (Nat × Value) → List Value → MH → Prop} {r : Int32} {hz : MH} {k23 : Option Nat → Option Nat → Option Nat → Option Nat → Int32 → MH → Option (Int32 × MH)} (hd : 141 ≤ d) (C : mm_D [] d yL_law cL_law 8 (some .boolean) (.inr (some (.int r))) hz V) (q23 : ∀ (x0 : Option Nat) (x1 : Option Nat) (x2 : Option Nat) (x3 : Option Nat) (x4 : Int32) (h : MH), k23 x0 x1 x2 x3 x4 h = some (r, hz) → V 23 [(0, va_rf x0), (1, va_rf x1), (2, va_rf x2), (3, va_rf x3), (4, .int x4)] [] h) (l0 : Option Nat) (l1 : Option Nat) (l2 : Option Nat) (l3 : Option Nat) (l4 : Int32) (h : MH) (hK : F_L_law_658 k23 l0 l1 l2 l3 l4 h = some (r, hz)) : V 658 [(0, va_rf l0), (1, va_rf l1), (2, va_rf l2), (3, va_rf l3), (4, .int l4)] [] h := by
  unfold F_L_law_658 at hK
  refine mD_aload_n C (pc := 658) 1 dL_law_658 rfl ?_
  refine mD_aload_n C (pc := 659) 0 dL_law_659 rfl ?_
  refine mD_iload C (pc := 660) 4 dL_law_660 rfl ?_
  refine mD_iconst C (pc := 662) (v := (1 : Int32)) dL_law_662 (by decide) ?_
  refine mD_iadd C (pc := 663) dL_law_663 ?_
  replace hK := mm_bd hK; obtain ⟨v664, e664, hK⟩ := hK
  refine mD_sald C (pc := 664) dL_law_664 e664 ?_
  refine mD_aload_n C (pc := 665) 0 dL_law_665 rfl ?_
  refine mD_iload C (pc := 666) 4 dL_law_666 rfl ?_
  refine mD_iconst C (pc := 668) (v := (2 : Int32)) dL_law_668 (by decide) ?_
  refine mD_iadd C (pc := 669) dL_law_669 ?_
  replace hK := mm_bd hK; obtain ⟨v670, e670, hK⟩ := hK
  refine mD_sald C (pc := 670) dL_law_670 e670 ?_
  refine mD_aload_n C (pc := 671) 3 dL_law_671 rfl ?_
  replace hK := mm_b2s hK; obtain ⟨v672, h672, e672, hK⟩ := hK
  refine mD_callSW C (pc := 672) (d1 := 8) (As := [va_rf l1, .int v664, .int v670, va_rf l3]) (st := []) (vk := (some (.int v672))) ((S_L_comesTo (by omega)) e672) tT_L_comesTo wd_1490 wd_1491 (by omega) (by decide) rfl (by simp [mm_crf, mm_cti, mm_ctl]) rfl dL_law_672 ?_
  show V _ _ (.int v672 :: _) _
  refine mD_istore C (pc := 675) (i := 5) (lv' := [(5, .int v672), (0, va_rf l0), (1, va_rf l1), (2, va_rf l2), (3, va_rf l3), (4, .int l4)]) dL_law_675 (by decide) rfl ?_
  refine mD_aload_n C (pc := 677) 3 dL_law_677 rfl ?_
  refine mD_aload_n C (pc := 678) 1 dL_law_678 rfl ?_
  refine mD_iload C (pc := 679) 5 dL_law_679 rfl ?_
  refine mD_iconst C (pc := 681) (v := (1 : Int32)) dL_law_681 (by decide) ?_
  refine mD_iadd C (pc := 682) dL_law_682 ?_
  replace hK := mm_bd hK; obtain ⟨v683, e683, hK⟩ := hK
  refine mD_sald C (pc := 683) dL_law_683 e683 ?_
  refine mD_aload_n C (pc := 684) 1 dL_law_684 rfl ?_
  refine mD_iload C (pc := 685) 5 dL_law_685 rfl ?_
  refine mD_iconst C (pc := 687) (v := (2 : Int32)) dL_law_687 (by decide) ?_
  refine mD_iadd C (pc := 688) dL_law_688 ?_
  replace hK := mm_bd hK; obtain ⟨v689, e689, hK⟩ := hK
  refine mD_sald C (pc := 689) dL_law_689 e689 ?_
  replace hK := mm_b2s hK; obtain ⟨v690, h690, e690, hK⟩ := hK
  obtain ⟨o690, e690⟩ := cV_some e690
  refine mD_callV C (pc := 690) (d1 := 5) (As := [.int v683, .int v689]) (st := []) (vk := (some (.int v690))) ((S_X12_comesTo (by omega)) e690) tT_X12_comesTo o690 (Or.inr ⟨_, rfl, rfl⟩) wd_2366 wd_2367 wd_2368 (by omega) (by decide) rfl (by simp [mm_crf, mm_cti, mm_ctl]) rfl dL_law_690 ?_
  show V _ _ (.int v690 :: _) _
  refine mD_istore C (pc := 693) (i := 6) (lv' := [(6, .int v690), (5, .int v672), (0, va_rf l0), (1, va_rf l1), (2, va_rf l2), (3, va_rf l3), (4, .int l4)]) dL_law_693 (by decide) rfl ?_
  refine mD_aload_n C (pc := 695) 4 dL_law_695 rfl ?_
  replace hK := mm_b2s hK; obtain ⟨v696, h696, e696, hK⟩ := hK
  obtain ⟨o696, e696⟩ := cV_some e696
  refine mD_callV C (pc := 696) (d1 := 1) (As := []) (st := []) (vk := (some (.int v696))) ((S_X12_thrown (by omega)) e696) tT_X12_thrown o696 (Or.inr ⟨_, rfl, rfl⟩) wd_2145 wd_2146 wd_2147 (by omega) (by decide) rfl (by simp [mm_crf, mm_cti, mm_ctl]) rfl dL_law_696 ?_
  show V _ _ (.int v696 :: _) _
  refine mD_iload C (pc := 699) 1 dL_law_699 rfl ?_
  refine mD_icmp_eq C (pc := 701) (tgt := 706) dL_law_701 (by decide) (fun hc => ?_) (fun hc => ?_)
  · replace hK := mm_ip hc hK
    refine mD_iload C (pc := 706) 1 dL_law_706 rfl ?_
    refine mD_if_ne C (pc := 708) (tgt := 723) dL_law_708 (by decide) (fun hc => ?_) (fun hc => ?_)
    · replace hK := mm_in hc hK
      refine mD_sub C [2, 3, 4, 5, 6] rfl ?_
      exact w_L_law_723 hd C (fun z0 z1 z2 z3 z4 z5 hK => q23 z0 z1 z2 z3 z4 z5 hK) _ _ _ _ _ _ hK
    · replace hK := mm_ip hc hK
      refine mD_aload_n C (pc := 711) 5 dL_law_711 rfl ?_
      refine mD_iconst C (pc := 712) (v := (0 : Int32)) dL_law_712 (by decide) ?_
      replace hK := mm_bd hK; obtain ⟨v713, e713, hK⟩ := hK
      refine mD_lald C (pc := 713) dL_law_713 e713 ?_
      refine mD_iload C (pc := 714) 0 dL_law_714 rfl ?_
      refine mD_i2l C (pc := 716) dL_law_716 ?_
      refine mD_lcmp C (pc := 717) dL_law_717 ?_
      refine mD_if_eq C (pc := 718) (tgt := 723) dL_law_718 (by decide) (fun hc => ?_) (fun hc => ?_)
      · replace hK := mm_ip hc hK
        refine mD_sub C [2, 3, 4, 5, 6] rfl ?_
        exact w_L_law_723 hd C (fun z0 z1 z2 z3 z4 z5 hK => q23 z0 z1 z2 z3 z4 z5 hK) _ _ _ _ _ _ hK
      · replace hK := mm_in hc hK
        refine mD_iconst C (pc := 721) (v := (0 : Int32)) dL_law_721 (by decide) ?_
        replace hK := rZ_some hK; obtain ⟨hv722, hK⟩ := hK
        cases hK
        exact mD_zret C (pc := 722) rfl (mm_nrZ hv722) dL_law_722 rfl rfl
  · replace hK := mm_in hc hK
    refine mD_iconst C (pc := 704) (v := (0 : Int32)) dL_law_704 (by decide) ?_
    replace hK := rZ_some hK; obtain ⟨hv705, hK⟩ := hK
    cases hK
    exact mD_zret C (pc := 705) rfl (mm_nrZ hv705) dL_law_705 rfl rfl
def F_L_law_726 (k23 : Option Nat → Option Nat → Option Nat → Option Nat → Int32 → MH → Option (Int32 × MH)) (l0 : Option Nat) (l1 : Option Nat) (l2 : Option Nat) (l3 : Option Nat) (l4 : Int32) (h : MH) : Option (Int32 × MH) := (aS h l0 (l4 + (1 : Int32))).bind fun v732 => (aS h l0 (l4 + (2 : Int32))).bind fun v738 => (aS h l0 (l4 + (3 : Int32))).bind fun v744 => mm_b2 (cV h l1 11 (F_X11_dial l1 v732 v738 v744 h)) fun v745 h745 => (aS h745 l0 (l4 + (1 : Int32))).bind fun v754 => (aS h745 l0 (l4 + (2 : Int32))).bind fun v760 => (aS h745 l0 (l4 + (3 : Int32))).bind fun v766 => mm_b2 (cV h745 l2 12 (F_X12_dial l2 v754 v760 v766 h745)) fun v767 h767 => if v745 = v767 then (F_L_law_2603 k23 l0 l1 l2 l3 l4 h767) else (rZ (0 : Int32) h767)
set_option maxRecDepth 20000 in
set_option maxHeartbeats 4000000 in
theorem w_L_law_726 {d : Nat} {V : Nat → List (Nat × Value) → List Value → MH → Prop} {r : Int32} {hz : MH} {k23 : Option Nat → Option Nat → Option Nat → Option Nat → Int32 → MH → Option (Int32 × MH)} (hd : 141 ≤ d) (C : mm_D [] d yL_law cL_law 8 (some .boolean) (.inr (some (.int r))) hz V) (q23 : ∀ (x0 : Option Nat) (x1 : Option Nat) (x2 : Option Nat) (x3 : Option Nat) (x4 : Int32) (h : MH), k23 x0 x1 x2 x3 x4 h = some (r, hz) → V 23 [(0, va_rf x0), (1, va_rf x1), (2, va_rf x2), (3, va_rf x3), (4, .int x4)] [] h) (l0 : Option Nat) (l1 : Option Nat) (l2 : Option Nat) (l3 : Option Nat) (l4 : Int32) (h : MH) (hK : F_L_law_726 k23 l0 l1 l2 l3 l4 h = some (r, hz)) : V 726 [(0, va_rf l0), (1, va_rf l1), (2, va_rf l2), (3, va_rf l3), (4, .int l4)] [] h := by
  unfold F_L_law_726 at hK
  refine mD_aload_n C (pc := 726) 1 dL_law_726 rfl ?_
  refine mD_aload_n C (pc := 727) 0 dL_law_727 rfl ?_
  refine mD_iload C (pc := 728) 4 dL_law_728 rfl ?_
  refine mD_iconst C (pc := 730) (v := (1 : Int32)) dL_law_730 (by decide) ?_
  refine mD_iadd C (pc := 731) dL_law_731 ?_
  replace hK := mm_bd hK; obtain ⟨v732, e732, hK⟩ := hK
  refine mD_sald C (pc := 732) dL_law_732 e732 ?_
  refine mD_aload_n C (pc := 733) 0 dL_law_733 rfl ?_
  refine mD_iload C (pc := 734) 4 dL_law_734 rfl ?_
  refine mD_iconst C (pc := 736) (v := (2 : Int32)) dL_law_736 (by decide) ?_
  refine mD_iadd C (pc := 737) dL_law_737 ?_
  replace hK := mm_bd hK; obtain ⟨v738, e738, hK⟩ := hK
  refine mD_sald C (pc := 738) dL_law_738 e738 ?_
  refine mD_aload_n C (pc := 739) 0 dL_law_739 rfl ?_
  refine mD_iload C (pc := 740) 4 dL_law_740 rfl ?_
  refine mD_iconst C (pc := 742) (v := (3 : Int32)) dL_law_742 (by decide) ?_
  refine mD_iadd C (pc := 743) dL_law_743 ?_
  replace hK := mm_bd hK; obtain ⟨v744, e744, hK⟩ := hK
  refine mD_sald C (pc := 744) dL_law_744 e744 ?_
  replace hK := mm_b2s hK; obtain ⟨v745, h745, e745, hK⟩ := hK
  obtain ⟨o745, e745⟩ := cV_some e745
  refine mD_callV C (pc := 745) (d1 := 4) (As := [.int v732, .int v738, .int v744]) (st := []) (vk := (some (.int v745))) ((S_X11_dial (by omega)) e745) tT_X11_dial o745 (Or.inr ⟨_, rfl, rfl⟩) wd_906 wd_907 wd_908 (by omega) (by decide) rfl (by simp [mm_crf, mm_cti, mm_ctl]) rfl dL_law_745 ?_
  show V _ _ (.int v745 :: _) _
  refine mD_aload_n C (pc := 748) 2 dL_law_748 rfl ?_
  refine mD_aload_n C (pc := 749) 0 dL_law_749 rfl ?_
  refine mD_iload C (pc := 750) 4 dL_law_750 rfl ?_
  refine mD_iconst C (pc := 752) (v := (1 : Int32)) dL_law_752 (by decide) ?_
  refine mD_iadd C (pc := 753) dL_law_753 ?_
  replace hK := mm_bd hK; obtain ⟨v754, e754, hK⟩ := hK
  refine mD_sald C (pc := 754) dL_law_754 e754 ?_
  refine mD_aload_n C (pc := 755) 0 dL_law_755 rfl ?_
  refine mD_iload C (pc := 756) 4 dL_law_756 rfl ?_
  refine mD_iconst C (pc := 758) (v := (2 : Int32)) dL_law_758 (by decide) ?_
  refine mD_iadd C (pc := 759) dL_law_759 ?_
  replace hK := mm_bd hK; obtain ⟨v760, e760, hK⟩ := hK
  refine mD_sald C (pc := 760) dL_law_760 e760 ?_
  refine mD_aload_n C (pc := 761) 0 dL_law_761 rfl ?_
  refine mD_iload C (pc := 762) 4 dL_law_762 rfl ?_
  refine mD_iconst C (pc := 764) (v := (3 : Int32)) dL_law_764 (by decide) ?_
  refine mD_iadd C (pc := 765) dL_law_765 ?_
  replace hK := mm_bd hK; obtain ⟨v766, e766, hK⟩ := hK
  refine mD_sald C (pc := 766) dL_law_766 e766 ?_
  replace hK := mm_b2s hK; obtain ⟨v767, h767, e767, hK⟩ := hK
  obtain ⟨o767, e767⟩ := cV_some e767
  refine mD_callV C (pc := 767) (d1 := 4) (As := [.int v754, .int v760, .int v766]) (st := [.int v745]) (vk := (some (.int v767))) ((S_X12_dial (by omega)) e767) tT_X12_dial o767 (Or.inr ⟨_, rfl, rfl⟩) wd_2379 wd_2380 wd_2381 (by omega) (by decide) rfl (by simp [mm_crf, mm_cti, mm_ctl]) rfl dL_law_767 ?_
  show V _ _ (.int v767 :: _) _
  refine mD_icmp_eq C (pc := 770) (tgt := 2603) dL_law_770 (by decide) (fun hc => ?_) (fun hc => ?_)
  · replace hK := mm_ip hc hK
    exact w_L_law_2603 hd C (fun z0 z1 z2 z3 z4 z5 hK => q23 z0 z1 z2 z3 z4 z5 hK) _ _ _ _ _ _ hK
  · replace hK := mm_in hc hK
    refine mD_iconst C (pc := 773) (v := (0 : Int32)) dL_law_773 (by decide) ?_
    replace hK := rZ_some hK; obtain ⟨hv774, hK⟩ := hK
    cases hK
    exact mD_zret C (pc := 774) rfl (mm_nrZ hv774) dL_law_774 rfl rfl
def F_L_law_775 (k23 : Option Nat → Option Nat → Option Nat → Option Nat → Int32 → MH → Option (Int32 × MH)) (l0 : Option Nat) (l1 : Option Nat) (l2 : Option Nat) (l3 : Option Nat) (l4 : Int32) (h : MH) : Option (Int32 × MH) := (aS h l0 (l4 + (1 : Int32))).bind fun v781 => mm_b2 (cV h l1 11 (F_X11_pull l1 v781 h)) fun v782 h782 => (aS h782 l0 (l4 + (1 : Int32))).bind fun v791 => mm_b2 (cV h782 l2 12 (F_X12_pull l2 v791 h782)) fun v792 h792 => if v782 = v792 then (F_L_law_2603 k23 l0 l1 l2 l3 l4 h792) else (rZ (0 : Int32) h792)
set_option maxRecDepth 20000 in
set_option maxHeartbeats 4000000 in
theorem w_L_law_775 {d : Nat} {V : Nat → List (Nat × Value) → List Value → MH → Prop} {r : Int32} {hz : MH} {k23 : Option Nat → Option Nat → Option Nat → Option Nat → Int32 → MH → Option (Int32 × MH)} (hd : 141 ≤ d) (C : mm_D [] d yL_law cL_law 8 (some .boolean) (.inr (some (.int r))) hz V) (q23 : ∀ (x0 : Option Nat) (x1 : Option Nat) (x2 : Option Nat) (x3 : Option Nat) (x4 : Int32) (h : MH), k23 x0 x1 x2 x3 x4 h = some (r, hz) → V 23 [(0, va_rf x0), (1, va_rf x1), (2, va_rf x2), (3, va_rf x3), (4, .int x4)] [] h) (l0 : Option Nat) (l1 : Option Nat) (l2 : Option Nat) (l3 : Option Nat) (l4 : Int32) (h : MH) (hK : F_L_law_775 k23 l0 l1 l2 l3 l4 h = some (r, hz)) : V 775 [(0, va_rf l0), (1, va_rf l1), (2, va_rf l2), (3, va_rf l3), (4, .int l4)] [] h := by
  unfold F_L_law_775 at hK
  refine mD_aload_n C (pc := 775) 1 dL_law_775 rfl ?_
  refine mD_aload_n C (pc := 776) 0 dL_law_776 rfl ?_
  refine mD_iload C (pc := 777) 4 dL_law_777 rfl ?_
  refine mD_iconst C (pc := 779) (v := (1 : Int32)) dL_law_779 (by decide) ?_
  refine mD_iadd C (pc := 780) dL_law_780 ?_
  replace hK := mm_bd hK; obtain ⟨v781, e781, hK⟩ := hK
  refine mD_sald C (pc := 781) dL_law_781 e781 ?_
  replace hK := mm_b2s hK; obtain ⟨v782, h782, e782, hK⟩ := hK
  obtain ⟨o782, e782⟩ := cV_some e782
  refine mD_callV C (pc := 782) (d1 := 4) (As := [.int v781]) (st := []) (vk := (some (.int v782))) ((S_X11_pull (by omega)) e782) tT_X11_pull o782 (Or.inr ⟨_, rfl, rfl⟩) wd_948 wd_949 wd_950 (by omega) (by decide) rfl (by simp [mm_crf, mm_cti, mm_ctl]) rfl dL_law_782 ?_
  show V _ _ (.int v782 :: _) _
  refine mD_aload_n C (pc := 785) 2 dL_law_785 rfl ?_
  refine mD_aload_n C (pc := 786) 0 dL_law_786 rfl ?_
  refine mD_iload C (pc := 787) 4 dL_law_787 rfl ?_
  refine mD_iconst C (pc := 789) (v := (1 : Int32)) dL_law_789 (by decide) ?_
  refine mD_iadd C (pc := 790) dL_law_790 ?_
  replace hK := mm_bd hK; obtain ⟨v791, e791, hK⟩ := hK
  refine mD_sald C (pc := 791) dL_law_791 e791 ?_
  replace hK := mm_b2s hK; obtain ⟨v792, h792, e792, hK⟩ := hK
  obtain ⟨o792, e792⟩ := cV_some e792
  refine mD_callV C (pc := 792) (d1 := 4) (As := [.int v791]) (st := [.int v782]) (vk := (some (.int v792))) ((S_X12_pull (by omega)) e792) tT_X12_pull o792 (Or.inr ⟨_, rfl, rfl⟩) wd_2392 wd_2393 wd_2394 (by omega) (by decide) rfl (by simp [mm_crf, mm_cti, mm_ctl]) rfl dL_law_792 ?_
  show V _ _ (.int v792 :: _) _
  refine mD_icmp_eq C (pc := 795) (tgt := 2603) dL_law_795 (by decide) (fun hc => ?_) (fun hc => ?_)
  · replace hK := mm_ip hc hK
    exact w_L_law_2603 hd C (fun z0 z1 z2 z3 z4 z5 hK => q23 z0 z1 z2 z3 z4 z5 hK) _ _ _ _ _ _ hK
  · replace hK := mm_in hc hK
    refine mD_iconst C (pc := 798) (v := (0 : Int32)) dL_law_798 (by decide) ?_
    replace hK := rZ_some hK; obtain ⟨hv799, hK⟩ := hK
    cases hK
    exact mD_zret C (pc := 799) rfl (mm_nrZ hv799) dL_law_799 rfl rfl
def F_L_law_853 (k23 : Option Nat → Option Nat → Option Nat → Option Nat → Int32 → MH → Option (Int32 × MH)) (l0 : Option Nat) (l1 : Option Nat) (l2 : Option Nat) (l3 : Option Nat) (l4 : Int32) (h : MH) : Option (Int32 × MH) := F_L_law_2603 k23 l0 l1 l2 l3 l4 h
set_option maxRecDepth 20000 in
set_option maxHeartbeats 4000000 in
theorem w_L_law_853 {d : Nat} {V : Nat → List (Nat × Value) → List Value → MH → Prop} {r : Int32} {hz : MH} {k23 : Option Nat → Option Nat → Option Nat → Option Nat → Int32 → MH → Option (Int32 × MH)} (hd : 141 ≤ d) (C : mm_D [] d yL_law cL_law 8 (some .boolean) (.inr (some (.int r))) hz V) (q23 : ∀ (x0 : Option Nat) (x1 : Option Nat) (x2 : Option Nat) (x3 : Option Nat) (x4 : Int32) (h : MH), k23 x0 x1 x2 x3 x4 h = some (r, hz) → V 23 [(0, va_rf x0), (1, va_rf x1), (2, va_rf x2), (3, va_rf x3), (4, .int x4)] [] h) (l0 : Option Nat) (l1 : Option Nat) (l2 : Option Nat) (l3 : Option Nat) (l4 : Int32) (h : MH) (hK : F_L_law_853 k23 l0 l1 l2 l3 l4 h = some (r, hz)) : V 853 [(0, va_rf l0), (1, va_rf l1), (2, va_rf l2), (3, va_rf l3), (4, .int l4)] [] h := by
  unfold F_L_law_853 at hK
  refine mD_goto C (pc := 853) (tgt := 2603) dL_law_853 (by decide) ?_
  exact w_L_law_2603 hd C (fun z0 z1 z2 z3 z4 z5 hK => q23 z0 z1 z2 z3 z4 z5 hK) _ _ _ _ _ _ hK
def F_L_law_800 (k23 : Option Nat → Option Nat → Option Nat → Option Nat → Int32 → MH → Option (Int32 × MH)) (l0 : Option Nat) (l1 : Option Nat) (l2 : Option Nat) (l3 : Option Nat) (l4 : Int32) (h : MH) : Option (Int32 × MH) := (aS h l0 (l4 + (1 : Int32))).bind fun v806 => mm_b2 (F_L_door l1 v806 l3 h) fun v808 h808 => (aS h808 l0 (l4 + (1 : Int32))).bind fun v819 => mm_b2 (cV h808 l2 12 (F_X12_door l2 v819 h808)) fun v820 h820 => mm_b2 (cV h820 l2 12 (F_X12_thrown l2 h820)) fun v826 h826 => if v826 = v808 then (if v808 = 0 then ((aL h826 l3 (0 : Int32)).bind fun v843 => if (lg_cmp v843 (v820.toInt64)) = 0 then (F_L_law_853 k23 l0 l1 l2 l3 l4 h826) else (rZ (0 : Int32) h826)) else (F_L_law_853 k23 l0 l1 l2 l3 l4 h826)) else (rZ (0 : Int32) h826)
set_option maxRecDepth 20000 in
set_option maxHeartbeats 4000000 in
theorem w_L_law_800 {d : Nat} {V : Nat → List (Nat × Value) → List Value → MH → Prop} {r : Int32} {hz : MH} {k23 : Option Nat → Option Nat → Option Nat → Option Nat → Int32 → MH → Option (Int32 × MH)} (hd : 141 ≤ d) (C : mm_D [] d yL_law cL_law 8 (some .boolean) (.inr (some (.int r))) hz V) (q23 : ∀ (x0 : Option Nat) (x1 : Option Nat) (x2 : Option Nat) (x3 : Option Nat) (x4 : Int32) (h : MH), k23 x0 x1 x2 x3 x4 h = some (r, hz) → V 23 [(0, va_rf x0), (1, va_rf x1), (2, va_rf x2), (3, va_rf x3), (4, .int x4)] [] h) (l0 : Option Nat) (l1 : Option Nat) (l2 : Option Nat) (l3 : Option Nat) (l4 : Int32) (h : MH) (hK : F_L_law_800 k23 l0 l1 l2 l3 l4 h = some (r, hz)) : V 800 [(0, va_rf l0), (1, va_rf l1), (2, va_rf l2), (3, va_rf l3), (4, .int l4)] [] h := by
  unfold F_L_law_800 at hK
  refine mD_aload_n C (pc := 800) 1 dL_law_800 rfl ?_
  refine mD_aload_n C (pc := 801) 0 dL_law_801 rfl ?_
  refine mD_iload C (pc := 802) 4 dL_law_802 rfl ?_
  refine mD_iconst C (pc := 804) (v := (1 : Int32)) dL_law_804 (by decide) ?_
  refine mD_iadd C (pc := 805) dL_law_805 ?_
  replace hK := mm_bd hK; obtain ⟨v806, e806, hK⟩ := hK
  refine mD_sald C (pc := 806) dL_law_806 e806 ?_
  refine mD_aload_n C (pc := 807) 3 dL_law_807 rfl ?_
  replace hK := mm_b2s hK; obtain ⟨v808, h808, e808, hK⟩ := hK
  refine mD_callSW C (pc := 808) (d1 := 8) (As := [va_rf l1, .int v806, va_rf l3]) (st := []) (vk := (some (.int v808))) ((S_L_door (by omega)) e808) tT_L_door wd_1498 wd_1499 (by omega) (by decide) rfl (by simp [mm_crf, mm_cti, mm_ctl]) rfl dL_law_808 ?_
  show V _ _ (.int v808 :: _) _
  refine mD_istore C (pc := 811) (i := 5) (lv' := [(5, .int v808), (0, va_rf l0), (1, va_rf l1), (2, va_rf l2), (3, va_rf l3), (4, .int l4)]) dL_law_811 (by decide) rfl ?_
  refine mD_aload_n C (pc := 813) 3 dL_law_813 rfl ?_
  refine mD_aload_n C (pc := 814) 1 dL_law_814 rfl ?_
  refine mD_iload C (pc := 815) 5 dL_law_815 rfl ?_
  refine mD_iconst C (pc := 817) (v := (1 : Int32)) dL_law_817 (by decide) ?_
  refine mD_iadd C (pc := 818) dL_law_818 ?_
  replace hK := mm_bd hK; obtain ⟨v819, e819, hK⟩ := hK
  refine mD_sald C (pc := 819) dL_law_819 e819 ?_
  replace hK := mm_b2s hK; obtain ⟨v820, h820, e820, hK⟩ := hK
  obtain ⟨o820, e820⟩ := cV_some e820
  refine mD_callV C (pc := 820) (d1 := 3) (As := [.int v819]) (st := []) (vk := (some (.int v820))) ((S_X12_door (by omega)) e820) tT_X12_door o820 (Or.inr ⟨_, rfl, rfl⟩) wd_2400 wd_2401 wd_2402 (by omega) (by decide) rfl (by simp [mm_crf, mm_cti, mm_ctl]) rfl dL_law_820 ?_
  show V _ _ (.int v820 :: _) _
  refine mD_istore C (pc := 823) (i := 6) (lv' := [(6, .int v820), (5, .int v808), (0, va_rf l0), (1, va_rf l1), (2, va_rf l2), (3, va_rf l3), (4, .int l4)]) dL_law_823 (by decide) rfl ?_
  refine mD_aload_n C (pc := 825) 4 dL_law_825 rfl ?_
  replace hK := mm_b2s hK; obtain ⟨v826, h826, e826, hK⟩ := hK
  obtain ⟨o826, e826⟩ := cV_some e826
  refine mD_callV C (pc := 826) (d1 := 1) (As := []) (st := []) (vk := (some (.int v826))) ((S_X12_thrown (by omega)) e826) tT_X12_thrown o826 (Or.inr ⟨_, rfl, rfl⟩) wd_2145 wd_2146 wd_2147 (by omega) (by decide) rfl (by simp [mm_crf, mm_cti, mm_ctl]) rfl dL_law_826 ?_
  show V _ _ (.int v826 :: _) _
  refine mD_iload C (pc := 829) 1 dL_law_829 rfl ?_
  refine mD_icmp_eq C (pc := 831) (tgt := 836) dL_law_831 (by decide) (fun hc => ?_) (fun hc => ?_)
  · replace hK := mm_ip hc hK
    refine mD_iload C (pc := 836) 1 dL_law_836 rfl ?_
    refine mD_if_ne C (pc := 838) (tgt := 853) dL_law_838 (by decide) (fun hc => ?_) (fun hc => ?_)
    · replace hK := mm_in hc hK
      refine mD_sub C [2, 3, 4, 5, 6] rfl ?_
      exact w_L_law_853 hd C (fun z0 z1 z2 z3 z4 z5 hK => q23 z0 z1 z2 z3 z4 z5 hK) _ _ _ _ _ _ hK
    · replace hK := mm_ip hc hK
      refine mD_aload_n C (pc := 841) 5 dL_law_841 rfl ?_
      refine mD_iconst C (pc := 842) (v := (0 : Int32)) dL_law_842 (by decide) ?_
      replace hK := mm_bd hK; obtain ⟨v843, e843, hK⟩ := hK
      refine mD_lald C (pc := 843) dL_law_843 e843 ?_
      refine mD_iload C (pc := 844) 0 dL_law_844 rfl ?_
      refine mD_i2l C (pc := 846) dL_law_846 ?_
      refine mD_lcmp C (pc := 847) dL_law_847 ?_
      refine mD_if_eq C (pc := 848) (tgt := 853) dL_law_848 (by decide) (fun hc => ?_) (fun hc => ?_)
      · replace hK := mm_ip hc hK
        refine mD_sub C [2, 3, 4, 5, 6] rfl ?_
        exact w_L_law_853 hd C (fun z0 z1 z2 z3 z4 z5 hK => q23 z0 z1 z2 z3 z4 z5 hK) _ _ _ _ _ _ hK
      · replace hK := mm_in hc hK
        refine mD_iconst C (pc := 851) (v := (0 : Int32)) dL_law_851 (by decide) ?_
        replace hK := rZ_some hK; obtain ⟨hv852, hK⟩ := hK
        cases hK
        exact mD_zret C (pc := 852) rfl (mm_nrZ hv852) dL_law_852 rfl rfl
  · replace hK := mm_in hc hK
    refine mD_iconst C (pc := 834) (v := (0 : Int32)) dL_law_834 (by decide) ?_
    replace hK := rZ_some hK; obtain ⟨hv835, hK⟩ := hK
    cases hK
    exact mD_zret C (pc := 835) rfl (mm_nrZ hv835) dL_law_835 rfl rfl
def F_L_law_909 (k23 : Option Nat → Option Nat → Option Nat → Option Nat → Int32 → MH → Option (Int32 × MH)) (l0 : Option Nat) (l1 : Option Nat) (l2 : Option Nat) (l3 : Option Nat) (l4 : Int32) (h : MH) : Option (Int32 × MH) := F_L_law_2603 k23 l0 l1 l2 l3 l4 h
set_option maxRecDepth 20000 in
set_option maxHeartbeats 4000000 in
theorem w_L_law_909 {d : Nat} {V : Nat → List (Nat × Value) → List Value → MH → Prop} {r : Int32} {hz : MH} {k23 : Option Nat → Option Nat → Option Nat → Option Nat → Int32 → MH → Option (Int32 × MH)} (hd : 141 ≤ d) (C : mm_D [] d yL_law cL_law 8 (some .boolean) (.inr (some (.int r))) hz V) (q23 : ∀ (x0 : Option Nat) (x1 : Option Nat) (x2 : Option Nat) (x3 : Option Nat) (x4 : Int32) (h : MH), k23 x0 x1 x2 x3 x4 h = some (r, hz) → V 23 [(0, va_rf x0), (1, va_rf x1), (2, va_rf x2), (3, va_rf x3), (4, .int x4)] [] h) (l0 : Option Nat) (l1 : Option Nat) (l2 : Option Nat) (l3 : Option Nat) (l4 : Int32) (h : MH) (hK : F_L_law_909 k23 l0 l1 l2 l3 l4 h = some (r, hz)) : V 909 [(0, va_rf l0), (1, va_rf l1), (2, va_rf l2), (3, va_rf l3), (4, .int l4)] [] h := by
  unfold F_L_law_909 at hK
  refine mD_goto C (pc := 909) (tgt := 2603) dL_law_909 (by decide) ?_
  exact w_L_law_2603 hd C (fun z0 z1 z2 z3 z4 z5 hK => q23 z0 z1 z2 z3 z4 z5 hK) _ _ _ _ _ _ hK
def F_L_law_856 (k23 : Option Nat → Option Nat → Option Nat → Option Nat → Int32 → MH → Option (Int32 × MH)) (l0 : Option Nat) (l1 : Option Nat) (l2 : Option Nat) (l3 : Option Nat) (l4 : Int32) (h : MH) : Option (Int32 × MH) := (aS h l0 (l4 + (1 : Int32))).bind fun v862 => mm_b2 (F_L_minutes l1 v862 l3 h) fun v864 h864 => (aS h864 l0 (l4 + (1 : Int32))).bind fun v875 => mm_b2 (cV h864 l2 12 (F_X12_minutes l2 v875 h864)) fun v876 h876 => mm_b2 (cV h876 l2 12 (F_X12_thrown l2 h876)) fun v882 h882 => if v882 = v864 then (if v864 = 0 then ((aL h882 l3 (0 : Int32)).bind fun v899 => if (lg_cmp v899 (v876.toInt64)) = 0 then (F_L_law_909 k23 l0 l1 l2 l3 l4 h882) else (rZ (0 : Int32) h882)) else (F_L_law_909 k23 l0 l1 l2 l3 l4 h882)) else (rZ (0 : Int32) h882)
set_option maxRecDepth 20000 in
set_option maxHeartbeats 4000000 in
theorem w_L_law_856 {d : Nat} {V : Nat → List (Nat × Value) → List Value → MH → Prop} {r : Int32} {hz : MH} {k23 : Option Nat → Option Nat → Option Nat → Option Nat → Int32 → MH → Option (Int32 × MH)} (hd : 141 ≤ d) (C : mm_D [] d yL_law cL_law 8 (some .boolean) (.inr (some (.int r))) hz V) (q23 : ∀ (x0 : Option Nat) (x1 : Option Nat) (x2 : Option Nat) (x3 : Option Nat) (x4 : Int32) (h : MH), k23 x0 x1 x2 x3 x4 h = some (r, hz) → V 23 [(0, va_rf x0), (1, va_rf x1), (2, va_rf x2), (3, va_rf x3), (4, .int x4)] [] h) (l0 : Option Nat) (l1 : Option Nat) (l2 : Option Nat) (l3 : Option Nat) (l4 : Int32) (h : MH) (hK : F_L_law_856 k23 l0 l1 l2 l3 l4 h = some (r, hz)) : V 856 [(0, va_rf l0), (1, va_rf l1), (2, va_rf l2), (3, va_rf l3), (4, .int l4)] [] h := by
  unfold F_L_law_856 at hK
  refine mD_aload_n C (pc := 856) 1 dL_law_856 rfl ?_
  refine mD_aload_n C (pc := 857) 0 dL_law_857 rfl ?_
  refine mD_iload C (pc := 858) 4 dL_law_858 rfl ?_
  refine mD_iconst C (pc := 860) (v := (1 : Int32)) dL_law_860 (by decide) ?_
  refine mD_iadd C (pc := 861) dL_law_861 ?_
  replace hK := mm_bd hK; obtain ⟨v862, e862, hK⟩ := hK
  refine mD_sald C (pc := 862) dL_law_862 e862 ?_
  refine mD_aload_n C (pc := 863) 3 dL_law_863 rfl ?_
  replace hK := mm_b2s hK; obtain ⟨v864, h864, e864, hK⟩ := hK
  refine mD_callSW C (pc := 864) (d1 := 8) (As := [va_rf l1, .int v862, va_rf l3]) (st := []) (vk := (some (.int v864))) ((S_L_minutes (by omega)) e864) tT_L_minutes wd_1509 wd_1510 (by omega) (by decide) rfl (by simp [mm_crf, mm_cti, mm_ctl]) rfl dL_law_864 ?_
  show V _ _ (.int v864 :: _) _
  refine mD_istore C (pc := 867) (i := 5) (lv' := [(5, .int v864), (0, va_rf l0), (1, va_rf l1), (2, va_rf l2), (3, va_rf l3), (4, .int l4)]) dL_law_867 (by decide) rfl ?_
  refine mD_aload_n C (pc := 869) 3 dL_law_869 rfl ?_
  refine mD_aload_n C (pc := 870) 1 dL_law_870 rfl ?_
  refine mD_iload C (pc := 871) 5 dL_law_871 rfl ?_
  refine mD_iconst C (pc := 873) (v := (1 : Int32)) dL_law_873 (by decide) ?_
  refine mD_iadd C (pc := 874) dL_law_874 ?_
  replace hK := mm_bd hK; obtain ⟨v875, e875, hK⟩ := hK
  refine mD_sald C (pc := 875) dL_law_875 e875 ?_
  replace hK := mm_b2s hK; obtain ⟨v876, h876, e876, hK⟩ := hK
  obtain ⟨o876, e876⟩ := cV_some e876
  refine mD_callV C (pc := 876) (d1 := 8) (As := [.int v875]) (st := []) (vk := (some (.int v876))) ((S_X12_minutes (by omega)) e876) tT_X12_minutes o876 (Or.inr ⟨_, rfl, rfl⟩) wd_2404 wd_2405 wd_2406 (by omega) (by decide) rfl (by simp [mm_crf, mm_cti, mm_ctl]) rfl dL_law_876 ?_
  show V _ _ (.int v876 :: _) _
  refine mD_istore C (pc := 879) (i := 6) (lv' := [(6, .int v876), (5, .int v864), (0, va_rf l0), (1, va_rf l1), (2, va_rf l2), (3, va_rf l3), (4, .int l4)]) dL_law_879 (by decide) rfl ?_
  refine mD_aload_n C (pc := 881) 4 dL_law_881 rfl ?_
  replace hK := mm_b2s hK; obtain ⟨v882, h882, e882, hK⟩ := hK
  obtain ⟨o882, e882⟩ := cV_some e882
  refine mD_callV C (pc := 882) (d1 := 1) (As := []) (st := []) (vk := (some (.int v882))) ((S_X12_thrown (by omega)) e882) tT_X12_thrown o882 (Or.inr ⟨_, rfl, rfl⟩) wd_2145 wd_2146 wd_2147 (by omega) (by decide) rfl (by simp [mm_crf, mm_cti, mm_ctl]) rfl dL_law_882 ?_
  show V _ _ (.int v882 :: _) _
  refine mD_iload C (pc := 885) 1 dL_law_885 rfl ?_
  refine mD_icmp_eq C (pc := 887) (tgt := 892) dL_law_887 (by decide) (fun hc => ?_) (fun hc => ?_)
  · replace hK := mm_ip hc hK
    refine mD_iload C (pc := 892) 1 dL_law_892 rfl ?_
    refine mD_if_ne C (pc := 894) (tgt := 909) dL_law_894 (by decide) (fun hc => ?_) (fun hc => ?_)
    · replace hK := mm_in hc hK
      refine mD_sub C [2, 3, 4, 5, 6] rfl ?_
      exact w_L_law_909 hd C (fun z0 z1 z2 z3 z4 z5 hK => q23 z0 z1 z2 z3 z4 z5 hK) _ _ _ _ _ _ hK
    · replace hK := mm_ip hc hK
      refine mD_aload_n C (pc := 897) 5 dL_law_897 rfl ?_
      refine mD_iconst C (pc := 898) (v := (0 : Int32)) dL_law_898 (by decide) ?_
      replace hK := mm_bd hK; obtain ⟨v899, e899, hK⟩ := hK
      refine mD_lald C (pc := 899) dL_law_899 e899 ?_
      refine mD_iload C (pc := 900) 0 dL_law_900 rfl ?_
      refine mD_i2l C (pc := 902) dL_law_902 ?_
      refine mD_lcmp C (pc := 903) dL_law_903 ?_
      refine mD_if_eq C (pc := 904) (tgt := 909) dL_law_904 (by decide) (fun hc => ?_) (fun hc => ?_)
      · replace hK := mm_ip hc hK
        refine mD_sub C [2, 3, 4, 5, 6] rfl ?_
        exact w_L_law_909 hd C (fun z0 z1 z2 z3 z4 z5 hK => q23 z0 z1 z2 z3 z4 z5 hK) _ _ _ _ _ _ hK
      · replace hK := mm_in hc hK
        refine mD_iconst C (pc := 907) (v := (0 : Int32)) dL_law_907 (by decide) ?_
        replace hK := rZ_some hK; obtain ⟨hv908, hK⟩ := hK
        cases hK
        exact mD_zret C (pc := 908) rfl (mm_nrZ hv908) dL_law_908 rfl rfl
  · replace hK := mm_in hc hK
    refine mD_iconst C (pc := 890) (v := (0 : Int32)) dL_law_890 (by decide) ?_
    replace hK := rZ_some hK; obtain ⟨hv891, hK⟩ := hK
    cases hK
    exact mD_zret C (pc := 891) rfl (mm_nrZ hv891) dL_law_891 rfl rfl
def F_L_law_965 (k23 : Option Nat → Option Nat → Option Nat → Option Nat → Int32 → MH → Option (Int32 × MH)) (l0 : Option Nat) (l1 : Option Nat) (l2 : Option Nat) (l3 : Option Nat) (l4 : Int32) (h : MH) : Option (Int32 × MH) := F_L_law_2603 k23 l0 l1 l2 l3 l4 h
set_option maxRecDepth 20000 in
set_option maxHeartbeats 4000000 in
theorem w_L_law_965 {d : Nat} {V : Nat → List (Nat × Value) → List Value → MH → Prop} {r : Int32} {hz : MH} {k23 : Option Nat → Option Nat → Option Nat → Option Nat → Int32 → MH → Option (Int32 × MH)} (hd : 141 ≤ d) (C : mm_D [] d yL_law cL_law 8 (some .boolean) (.inr (some (.int r))) hz V) (q23 : ∀ (x0 : Option Nat) (x1 : Option Nat) (x2 : Option Nat) (x3 : Option Nat) (x4 : Int32) (h : MH), k23 x0 x1 x2 x3 x4 h = some (r, hz) → V 23 [(0, va_rf x0), (1, va_rf x1), (2, va_rf x2), (3, va_rf x3), (4, .int x4)] [] h) (l0 : Option Nat) (l1 : Option Nat) (l2 : Option Nat) (l3 : Option Nat) (l4 : Int32) (h : MH) (hK : F_L_law_965 k23 l0 l1 l2 l3 l4 h = some (r, hz)) : V 965 [(0, va_rf l0), (1, va_rf l1), (2, va_rf l2), (3, va_rf l3), (4, .int l4)] [] h := by
  unfold F_L_law_965 at hK
  refine mD_goto C (pc := 965) (tgt := 2603) dL_law_965 (by decide) ?_
  exact w_L_law_2603 hd C (fun z0 z1 z2 z3 z4 z5 hK => q23 z0 z1 z2 z3 z4 z5 hK) _ _ _ _ _ _ hK
def F_L_law_912 (k23 : Option Nat → Option Nat → Option Nat → Option Nat → Int32 → MH → Option (Int32 × MH)) (l0 : Option Nat) (l1 : Option Nat) (l2 : Option Nat) (l3 : Option Nat) (l4 : Int32) (h : MH) : Option (Int32 × MH) := (aS h l0 (l4 + (1 : Int32))).bind fun v918 => mm_b2 (F_L_undo l1 v918 l3 h) fun v920 h920 => (aS h920 l0 (l4 + (1 : Int32))).bind fun v931 => mm_b2 (cV h920 l2 12 (F_X12_undo l2 v931 h920)) fun v932 h932 => mm_b2 (cV h932 l2 12 (F_X12_thrown l2 h932)) fun v938 h938 => if v938 = v920 then (if v920 = 0 then ((aL h938 l3 (0 : Int32)).bind fun v955 => if (lg_cmp v955 (v932.toInt64)) = 0 then (F_L_law_965 k23 l0 l1 l2 l3 l4 h938) else (rZ (0 : Int32) h938)) else (F_L_law_965 k23 l0 l1 l2 l3 l4 h938)) else (rZ (0 : Int32) h938)
set_option maxRecDepth 20000 in
set_option maxHeartbeats 4000000 in
theorem w_L_law_912 {d : Nat} {V : Nat → List (Nat × Value) → List Value → MH → Prop} {r : Int32} {hz : MH} {k23 : Option Nat → Option Nat → Option Nat → Option Nat → Int32 → MH → Option (Int32 × MH)} (hd : 141 ≤ d) (C : mm_D [] d yL_law cL_law 8 (some .boolean) (.inr (some (.int r))) hz V) (q23 : ∀ (x0 : Option Nat) (x1 : Option Nat) (x2 : Option Nat) (x3 : Option Nat) (x4 : Int32) (h : MH), k23 x0 x1 x2 x3 x4 h = some (r, hz) → V 23 [(0, va_rf x0), (1, va_rf x1), (2, va_rf x2), (3, va_rf x3), (4, .int x4)] [] h) (l0 : Option Nat) (l1 : Option Nat) (l2 : Option Nat) (l3 : Option Nat) (l4 : Int32) (h : MH) (hK : F_L_law_912 k23 l0 l1 l2 l3 l4 h = some (r, hz)) : V 912 [(0, va_rf l0), (1, va_rf l1), (2, va_rf l2), (3, va_rf l3), (4, .int l4)] [] h := by
  unfold F_L_law_912 at hK
  refine mD_aload_n C (pc := 912) 1 dL_law_912 rfl ?_
  refine mD_aload_n C (pc := 913) 0 dL_law_913 rfl ?_
  refine mD_iload C (pc := 914) 4 dL_law_914 rfl ?_
  refine mD_iconst C (pc := 916) (v := (1 : Int32)) dL_law_916 (by decide) ?_
  refine mD_iadd C (pc := 917) dL_law_917 ?_
  replace hK := mm_bd hK; obtain ⟨v918, e918, hK⟩ := hK
  refine mD_sald C (pc := 918) dL_law_918 e918 ?_
  refine mD_aload_n C (pc := 919) 3 dL_law_919 rfl ?_
  replace hK := mm_b2s hK; obtain ⟨v920, h920, e920, hK⟩ := hK
  refine mD_callSW C (pc := 920) (d1 := 8) (As := [va_rf l1, .int v918, va_rf l3]) (st := []) (vk := (some (.int v920))) ((S_L_undo (by omega)) e920) tT_L_undo wd_1516 wd_1517 (by omega) (by decide) rfl (by simp [mm_crf, mm_cti, mm_ctl]) rfl dL_law_920 ?_
  show V _ _ (.int v920 :: _) _
  refine mD_istore C (pc := 923) (i := 5) (lv' := [(5, .int v920), (0, va_rf l0), (1, va_rf l1), (2, va_rf l2), (3, va_rf l3), (4, .int l4)]) dL_law_923 (by decide) rfl ?_
  refine mD_aload_n C (pc := 925) 3 dL_law_925 rfl ?_
  refine mD_aload_n C (pc := 926) 1 dL_law_926 rfl ?_
  refine mD_iload C (pc := 927) 5 dL_law_927 rfl ?_
  refine mD_iconst C (pc := 929) (v := (1 : Int32)) dL_law_929 (by decide) ?_
  refine mD_iadd C (pc := 930) dL_law_930 ?_
  replace hK := mm_bd hK; obtain ⟨v931, e931, hK⟩ := hK
  refine mD_sald C (pc := 931) dL_law_931 e931 ?_
  replace hK := mm_b2s hK; obtain ⟨v932, h932, e932, hK⟩ := hK
  obtain ⟨o932, e932⟩ := cV_some e932
  refine mD_callV C (pc := 932) (d1 := 2) (As := [.int v931]) (st := []) (vk := (some (.int v932))) ((S_X12_undo (by omega)) e932) tT_X12_undo o932 (Or.inr ⟨_, rfl, rfl⟩) wd_2427 wd_2428 wd_2429 (by omega) (by decide) rfl (by simp [mm_crf, mm_cti, mm_ctl]) rfl dL_law_932 ?_
  show V _ _ (.int v932 :: _) _
  refine mD_istore C (pc := 935) (i := 6) (lv' := [(6, .int v932), (5, .int v920), (0, va_rf l0), (1, va_rf l1), (2, va_rf l2), (3, va_rf l3), (4, .int l4)]) dL_law_935 (by decide) rfl ?_
  refine mD_aload_n C (pc := 937) 4 dL_law_937 rfl ?_
  replace hK := mm_b2s hK; obtain ⟨v938, h938, e938, hK⟩ := hK
  obtain ⟨o938, e938⟩ := cV_some e938
  refine mD_callV C (pc := 938) (d1 := 1) (As := []) (st := []) (vk := (some (.int v938))) ((S_X12_thrown (by omega)) e938) tT_X12_thrown o938 (Or.inr ⟨_, rfl, rfl⟩) wd_2145 wd_2146 wd_2147 (by omega) (by decide) rfl (by simp [mm_crf, mm_cti, mm_ctl]) rfl dL_law_938 ?_
  show V _ _ (.int v938 :: _) _
  refine mD_iload C (pc := 941) 1 dL_law_941 rfl ?_
  refine mD_icmp_eq C (pc := 943) (tgt := 948) dL_law_943 (by decide) (fun hc => ?_) (fun hc => ?_)
  · replace hK := mm_ip hc hK
    refine mD_iload C (pc := 948) 1 dL_law_948 rfl ?_
    refine mD_if_ne C (pc := 950) (tgt := 965) dL_law_950 (by decide) (fun hc => ?_) (fun hc => ?_)
    · replace hK := mm_in hc hK
      refine mD_sub C [2, 3, 4, 5, 6] rfl ?_
      exact w_L_law_965 hd C (fun z0 z1 z2 z3 z4 z5 hK => q23 z0 z1 z2 z3 z4 z5 hK) _ _ _ _ _ _ hK
    · replace hK := mm_ip hc hK
      refine mD_aload_n C (pc := 953) 5 dL_law_953 rfl ?_
      refine mD_iconst C (pc := 954) (v := (0 : Int32)) dL_law_954 (by decide) ?_
      replace hK := mm_bd hK; obtain ⟨v955, e955, hK⟩ := hK
      refine mD_lald C (pc := 955) dL_law_955 e955 ?_
      refine mD_iload C (pc := 956) 0 dL_law_956 rfl ?_
      refine mD_i2l C (pc := 958) dL_law_958 ?_
      refine mD_lcmp C (pc := 959) dL_law_959 ?_
      refine mD_if_eq C (pc := 960) (tgt := 965) dL_law_960 (by decide) (fun hc => ?_) (fun hc => ?_)
      · replace hK := mm_ip hc hK
        refine mD_sub C [2, 3, 4, 5, 6] rfl ?_
        exact w_L_law_965 hd C (fun z0 z1 z2 z3 z4 z5 hK => q23 z0 z1 z2 z3 z4 z5 hK) _ _ _ _ _ _ hK
      · replace hK := mm_in hc hK
        refine mD_iconst C (pc := 963) (v := (0 : Int32)) dL_law_963 (by decide) ?_
        replace hK := rZ_some hK; obtain ⟨hv964, hK⟩ := hK
        cases hK
        exact mD_zret C (pc := 964) rfl (mm_nrZ hv964) dL_law_964 rfl rfl
  · replace hK := mm_in hc hK
    refine mD_iconst C (pc := 946) (v := (0 : Int32)) dL_law_946 (by decide) ?_
    replace hK := rZ_some hK; obtain ⟨hv947, hK⟩ := hK
    cases hK
    exact mD_zret C (pc := 947) rfl (mm_nrZ hv947) dL_law_947 rfl rfl
def F_L_law_1033 (k23 : Option Nat → Option Nat → Option Nat → Option Nat → Int32 → MH → Option (Int32 × MH)) (l0 : Option Nat) (l1 : Option Nat) (l2 : Option Nat) (l3 : Option Nat) (l4 : Int32) (h : MH) : Option (Int32 × MH) := F_L_law_2603 k23 l0 l1 l2 l3 l4 h
set_option maxRecDepth 20000 in
set_option maxHeartbeats 4000000 in
theorem w_L_law_1033 {d : Nat} {V : Nat → List (Nat × Value) → List Value → MH → Prop} {r : Int32} {hz : MH} {k23 : Option Nat → Option Nat → Option Nat → Option Nat → Int32 → MH → Option (Int32 × MH)} (hd : 141 ≤ d) (C : mm_D [] d yL_law cL_law 8 (some .boolean) (.inr (some (.int r))) hz V) (q23 : ∀ (x0 : Option Nat) (x1 : Option Nat) (x2 : Option Nat) (x3 : Option Nat) (x4 : Int32) (h : MH), k23 x0 x1 x2 x3 x4 h = some (r, hz) → V 23 [(0, va_rf x0), (1, va_rf x1), (2, va_rf x2), (3, va_rf x3), (4, .int x4)] [] h) (l0 : Option Nat) (l1 : Option Nat) (l2 : Option Nat) (l3 : Option Nat) (l4 : Int32) (h : MH) (hK : F_L_law_1033 k23 l0 l1 l2 l3 l4 h = some (r, hz)) : V 1033 [(0, va_rf l0), (1, va_rf l1), (2, va_rf l2), (3, va_rf l3), (4, .int l4)] [] h := by
  unfold F_L_law_1033 at hK
  refine mD_goto C (pc := 1033) (tgt := 2603) dL_law_1033 (by decide) ?_
  exact w_L_law_2603 hd C (fun z0 z1 z2 z3 z4 z5 hK => q23 z0 z1 z2 z3 z4 z5 hK) _ _ _ _ _ _ hK
def F_L_law_968 (k23 : Option Nat → Option Nat → Option Nat → Option Nat → Int32 → MH → Option (Int32 × MH)) (l0 : Option Nat) (l1 : Option Nat) (l2 : Option Nat) (l3 : Option Nat) (l4 : Int32) (h : MH) : Option (Int32 × MH) := (aS h l0 (l4 + (1 : Int32))).bind fun v974 => (aS h l0 (l4 + (2 : Int32))).bind fun v980 => mm_b2 (F_L_judge l1 v974 v980 l3 h) fun v982 h982 => (aS h982 l0 (l4 + (1 : Int32))).bind fun v993 => (aS h982 l0 (l4 + (2 : Int32))).bind fun v999 => mm_b2 (cV h982 l2 12 (F_X12_judge l2 v993 v999 h982)) fun v1000 h1000 => mm_b2 (cV h1000 l2 12 (F_X12_thrown l2 h1000)) fun v1006 h1006 => if v1006 = v982 then (if v982 = 0 then ((aL h1006 l3 (0 : Int32)).bind fun v1023 => if (lg_cmp v1023 (v1000.toInt64)) = 0 then (F_L_law_1033 k23 l0 l1 l2 l3 l4 h1006) else (rZ (0 : Int32) h1006)) else (F_L_law_1033 k23 l0 l1 l2 l3 l4 h1006)) else (rZ (0 : Int32) h1006)
set_option maxRecDepth 20000 in
set_option maxHeartbeats 4000000 in
theorem w_L_law_968 {d : Nat} {V : Nat → List (Nat × Value) → List Value → MH → Prop} {r : Int32} {hz : MH} {k23 : Option Nat → Option Nat → Option Nat → Option Nat → Int32 → MH → Option (Int32 × MH)} (hd : 141 ≤ d) (C : mm_D [] d yL_law cL_law 8 (some .boolean) (.inr (some (.int r))) hz V) (q23 : ∀ (x0 : Option Nat) (x1 : Option Nat) (x2 : Option Nat) (x3 : Option Nat) (x4 : Int32) (h : MH), k23 x0 x1 x2 x3 x4 h = some (r, hz) → V 23 [(0, va_rf x0), (1, va_rf x1), (2, va_rf x2), (3, va_rf x3), (4, .int x4)] [] h) (l0 : Option Nat) (l1 : Option Nat) (l2 : Option Nat) (l3 : Option Nat) (l4 : Int32) (h : MH) (hK : F_L_law_968 k23 l0 l1 l2 l3 l4 h = some (r, hz)) : V 968 [(0, va_rf l0), (1, va_rf l1), (2, va_rf l2), (3, va_rf l3), (4, .int l4)] [] h := by
  unfold F_L_law_968 at hK
  refine mD_aload_n C (pc := 968) 1 dL_law_968 rfl ?_
  refine mD_aload_n C (pc := 969) 0 dL_law_969 rfl ?_
  refine mD_iload C (pc := 970) 4 dL_law_970 rfl ?_
  refine mD_iconst C (pc := 972) (v := (1 : Int32)) dL_law_972 (by decide) ?_
  refine mD_iadd C (pc := 973) dL_law_973 ?_
  replace hK := mm_bd hK; obtain ⟨v974, e974, hK⟩ := hK
  refine mD_sald C (pc := 974) dL_law_974 e974 ?_
  refine mD_aload_n C (pc := 975) 0 dL_law_975 rfl ?_
  refine mD_iload C (pc := 976) 4 dL_law_976 rfl ?_
  refine mD_iconst C (pc := 978) (v := (2 : Int32)) dL_law_978 (by decide) ?_
  refine mD_iadd C (pc := 979) dL_law_979 ?_
  replace hK := mm_bd hK; obtain ⟨v980, e980, hK⟩ := hK
  refine mD_sald C (pc := 980) dL_law_980 e980 ?_
  refine mD_aload_n C (pc := 981) 3 dL_law_981 rfl ?_
  replace hK := mm_b2s hK; obtain ⟨v982, h982, e982, hK⟩ := hK
  refine mD_callSW C (pc := 982) (d1 := 9) (As := [va_rf l1, .int v974, .int v980, va_rf l3]) (st := []) (vk := (some (.int v982))) ((S_L_judge (by omega)) e982) tT_L_judge wd_1533 wd_1534 (by omega) (by decide) rfl (by simp [mm_crf, mm_cti, mm_ctl]) rfl dL_law_982 ?_
  show V _ _ (.int v982 :: _) _
  refine mD_istore C (pc := 985) (i := 5) (lv' := [(5, .int v982), (0, va_rf l0), (1, va_rf l1), (2, va_rf l2), (3, va_rf l3), (4, .int l4)]) dL_law_985 (by decide) rfl ?_
  refine mD_aload_n C (pc := 987) 3 dL_law_987 rfl ?_
  refine mD_aload_n C (pc := 988) 1 dL_law_988 rfl ?_
  refine mD_iload C (pc := 989) 5 dL_law_989 rfl ?_
  refine mD_iconst C (pc := 991) (v := (1 : Int32)) dL_law_991 (by decide) ?_
  refine mD_iadd C (pc := 992) dL_law_992 ?_
  replace hK := mm_bd hK; obtain ⟨v993, e993, hK⟩ := hK
  refine mD_sald C (pc := 993) dL_law_993 e993 ?_
  refine mD_aload_n C (pc := 994) 1 dL_law_994 rfl ?_
  refine mD_iload C (pc := 995) 5 dL_law_995 rfl ?_
  refine mD_iconst C (pc := 997) (v := (2 : Int32)) dL_law_997 (by decide) ?_
  refine mD_iadd C (pc := 998) dL_law_998 ?_
  replace hK := mm_bd hK; obtain ⟨v999, e999, hK⟩ := hK
  refine mD_sald C (pc := 999) dL_law_999 e999 ?_
  replace hK := mm_b2s hK; obtain ⟨v1000, h1000, e1000, hK⟩ := hK
  obtain ⟨o1000, e1000⟩ := cV_some e1000
  refine mD_callV C (pc := 1000) (d1 := 9) (As := [.int v993, .int v999]) (st := []) (vk := (some (.int v1000))) ((S_X12_judge (by omega)) e1000) tT_X12_judge o1000 (Or.inr ⟨_, rfl, rfl⟩) wd_2432 wd_2433 wd_2434 (by omega) (by decide) rfl (by simp [mm_crf, mm_cti, mm_ctl]) rfl dL_law_1000 ?_
  show V _ _ (.int v1000 :: _) _
  refine mD_istore C (pc := 1003) (i := 6) (lv' := [(6, .int v1000), (5, .int v982), (0, va_rf l0), (1, va_rf l1), (2, va_rf l2), (3, va_rf l3), (4, .int l4)]) dL_law_1003 (by decide) rfl ?_
  refine mD_aload_n C (pc := 1005) 4 dL_law_1005 rfl ?_
  replace hK := mm_b2s hK; obtain ⟨v1006, h1006, e1006, hK⟩ := hK
  obtain ⟨o1006, e1006⟩ := cV_some e1006
  refine mD_callV C (pc := 1006) (d1 := 1) (As := []) (st := []) (vk := (some (.int v1006))) ((S_X12_thrown (by omega)) e1006) tT_X12_thrown o1006 (Or.inr ⟨_, rfl, rfl⟩) wd_2145 wd_2146 wd_2147 (by omega) (by decide) rfl (by simp [mm_crf, mm_cti, mm_ctl]) rfl dL_law_1006 ?_
  show V _ _ (.int v1006 :: _) _
  refine mD_iload C (pc := 1009) 1 dL_law_1009 rfl ?_
  refine mD_icmp_eq C (pc := 1011) (tgt := 1016) dL_law_1011 (by decide) (fun hc => ?_) (fun hc => ?_)
  · replace hK := mm_ip hc hK
    refine mD_iload C (pc := 1016) 1 dL_law_1016 rfl ?_
    refine mD_if_ne C (pc := 1018) (tgt := 1033) dL_law_1018 (by decide) (fun hc => ?_) (fun hc => ?_)
    · replace hK := mm_in hc hK
      refine mD_sub C [2, 3, 4, 5, 6] rfl ?_
      exact w_L_law_1033 hd C (fun z0 z1 z2 z3 z4 z5 hK => q23 z0 z1 z2 z3 z4 z5 hK) _ _ _ _ _ _ hK
    · replace hK := mm_ip hc hK
      refine mD_aload_n C (pc := 1021) 5 dL_law_1021 rfl ?_
      refine mD_iconst C (pc := 1022) (v := (0 : Int32)) dL_law_1022 (by decide) ?_
      replace hK := mm_bd hK; obtain ⟨v1023, e1023, hK⟩ := hK
      refine mD_lald C (pc := 1023) dL_law_1023 e1023 ?_
      refine mD_iload C (pc := 1024) 0 dL_law_1024 rfl ?_
      refine mD_i2l C (pc := 1026) dL_law_1026 ?_
      refine mD_lcmp C (pc := 1027) dL_law_1027 ?_
      refine mD_if_eq C (pc := 1028) (tgt := 1033) dL_law_1028 (by decide) (fun hc => ?_) (fun hc => ?_)
      · replace hK := mm_ip hc hK
        refine mD_sub C [2, 3, 4, 5, 6] rfl ?_
        exact w_L_law_1033 hd C (fun z0 z1 z2 z3 z4 z5 hK => q23 z0 z1 z2 z3 z4 z5 hK) _ _ _ _ _ _ hK
      · replace hK := mm_in hc hK
        refine mD_iconst C (pc := 1031) (v := (0 : Int32)) dL_law_1031 (by decide) ?_
        replace hK := rZ_some hK; obtain ⟨hv1032, hK⟩ := hK
        cases hK
        exact mD_zret C (pc := 1032) rfl (mm_nrZ hv1032) dL_law_1032 rfl rfl
  · replace hK := mm_in hc hK
    refine mD_iconst C (pc := 1014) (v := (0 : Int32)) dL_law_1014 (by decide) ?_
    replace hK := rZ_some hK; obtain ⟨hv1015, hK⟩ := hK
    cases hK
    exact mD_zret C (pc := 1015) rfl (mm_nrZ hv1015) dL_law_1015 rfl rfl
def F_L_law_1089 (k23 : Option Nat → Option Nat → Option Nat → Option Nat → Int32 → MH → Option (Int32 × MH)) (l0 : Option Nat) (l1 : Option Nat) (l2 : Option Nat) (l3 : Option Nat) (l4 : Int32) (h : MH) : Option (Int32 × MH) := F_L_law_2603 k23 l0 l1 l2 l3 l4 h
set_option maxRecDepth 20000 in
set_option maxHeartbeats 4000000 in
theorem w_L_law_1089 {d : Nat} {V : Nat → List (Nat × Value) → List Value → MH → Prop} {r : Int32} {hz : MH} {k23 : Option Nat → Option Nat → Option Nat → Option Nat → Int32 → MH → Option (Int32 × MH)} (hd : 141 ≤ d) (C : mm_D [] d yL_law cL_law 8 (some .boolean) (.inr (some (.int r))) hz V) (q23 : ∀ (x0 : Option Nat) (x1 : Option Nat) (x2 : Option Nat) (x3 : Option Nat) (x4 : Int32) (h : MH), k23 x0 x1 x2 x3 x4 h = some (r, hz) → V 23 [(0, va_rf x0), (1, va_rf x1), (2, va_rf x2), (3, va_rf x3), (4, .int x4)] [] h) (l0 : Option Nat) (l1 : Option Nat) (l2 : Option Nat) (l3 : Option Nat) (l4 : Int32) (h : MH) (hK : F_L_law_1089 k23 l0 l1 l2 l3 l4 h = some (r, hz)) : V 1089 [(0, va_rf l0), (1, va_rf l1), (2, va_rf l2), (3, va_rf l3), (4, .int l4)] [] h := by
  unfold F_L_law_1089 at hK
  refine mD_goto C (pc := 1089) (tgt := 2603) dL_law_1089 (by decide) ?_
  exact w_L_law_2603 hd C (fun z0 z1 z2 z3 z4 z5 hK => q23 z0 z1 z2 z3 z4 z5 hK) _ _ _ _ _ _ hK
def F_L_law_1036 (k23 : Option Nat → Option Nat → Option Nat → Option Nat → Int32 → MH → Option (Int32 × MH)) (l0 : Option Nat) (l1 : Option Nat) (l2 : Option Nat) (l3 : Option Nat) (l4 : Int32) (h : MH) : Option (Int32 × MH) := (aS h l0 (l4 + (1 : Int32))).bind fun v1042 => mm_b2 (F_L_perform l1 v1042 l3 h) fun v1044 h1044 => (aS h1044 l0 (l4 + (1 : Int32))).bind fun v1055 => mm_b2 (cV h1044 l2 12 (F_X12_perform l2 v1055 h1044)) fun v1056 h1056 => mm_b2 (cV h1056 l2 12 (F_X12_thrown l2 h1056)) fun v1062 h1062 => if v1062 = v1044 then (if v1044 = 0 then ((aL h1062 l3 (0 : Int32)).bind fun v1079 => if (lg_cmp v1079 (v1056.toInt64)) = 0 then (F_L_law_1089 k23 l0 l1 l2 l3 l4 h1062) else (rZ (0 : Int32) h1062)) else (F_L_law_1089 k23 l0 l1 l2 l3 l4 h1062)) else (rZ (0 : Int32) h1062)
set_option maxRecDepth 20000 in
set_option maxHeartbeats 4000000 in
theorem w_L_law_1036 {d : Nat} {V : Nat → List (Nat × Value) → List Value → MH → Prop} {r : Int32} {hz : MH} {k23 : Option Nat → Option Nat → Option Nat → Option Nat → Int32 → MH → Option (Int32 × MH)} (hd : 141 ≤ d) (C : mm_D [] d yL_law cL_law 8 (some .boolean) (.inr (some (.int r))) hz V) (q23 : ∀ (x0 : Option Nat) (x1 : Option Nat) (x2 : Option Nat) (x3 : Option Nat) (x4 : Int32) (h : MH), k23 x0 x1 x2 x3 x4 h = some (r, hz) → V 23 [(0, va_rf x0), (1, va_rf x1), (2, va_rf x2), (3, va_rf x3), (4, .int x4)] [] h) (l0 : Option Nat) (l1 : Option Nat) (l2 : Option Nat) (l3 : Option Nat) (l4 : Int32) (h : MH) (hK : F_L_law_1036 k23 l0 l1 l2 l3 l4 h = some (r, hz)) : V 1036 [(0, va_rf l0), (1, va_rf l1), (2, va_rf l2), (3, va_rf l3), (4, .int l4)] [] h := by
  unfold F_L_law_1036 at hK
  refine mD_aload_n C (pc := 1036) 1 dL_law_1036 rfl ?_
  refine mD_aload_n C (pc := 1037) 0 dL_law_1037 rfl ?_
  refine mD_iload C (pc := 1038) 4 dL_law_1038 rfl ?_
  refine mD_iconst C (pc := 1040) (v := (1 : Int32)) dL_law_1040 (by decide) ?_
  refine mD_iadd C (pc := 1041) dL_law_1041 ?_
  replace hK := mm_bd hK; obtain ⟨v1042, e1042, hK⟩ := hK
  refine mD_sald C (pc := 1042) dL_law_1042 e1042 ?_
  refine mD_aload_n C (pc := 1043) 3 dL_law_1043 rfl ?_
  replace hK := mm_b2s hK; obtain ⟨v1044, h1044, e1044, hK⟩ := hK
  refine mD_callSW C (pc := 1044) (d1 := 9) (As := [va_rf l1, .int v1042, va_rf l3]) (st := []) (vk := (some (.int v1044))) ((S_L_perform (by omega)) e1044) tT_L_perform wd_1596 wd_1597 (by omega) (by decide) rfl (by simp [mm_crf, mm_cti, mm_ctl]) rfl dL_law_1044 ?_
  show V _ _ (.int v1044 :: _) _
  refine mD_istore C (pc := 1047) (i := 5) (lv' := [(5, .int v1044), (0, va_rf l0), (1, va_rf l1), (2, va_rf l2), (3, va_rf l3), (4, .int l4)]) dL_law_1047 (by decide) rfl ?_
  refine mD_aload_n C (pc := 1049) 3 dL_law_1049 rfl ?_
  refine mD_aload_n C (pc := 1050) 1 dL_law_1050 rfl ?_
  refine mD_iload C (pc := 1051) 5 dL_law_1051 rfl ?_
  refine mD_iconst C (pc := 1053) (v := (1 : Int32)) dL_law_1053 (by decide) ?_
  refine mD_iadd C (pc := 1054) dL_law_1054 ?_
  replace hK := mm_bd hK; obtain ⟨v1055, e1055, hK⟩ := hK
  refine mD_sald C (pc := 1055) dL_law_1055 e1055 ?_
  replace hK := mm_b2s hK; obtain ⟨v1056, h1056, e1056, hK⟩ := hK
  obtain ⟨o1056, e1056⟩ := cV_some e1056
  refine mD_callV C (pc := 1056) (d1 := 9) (As := [.int v1055]) (st := []) (vk := (some (.int v1056))) ((S_X12_perform (by omega)) e1056) tT_X12_perform o1056 (Or.inr ⟨_, rfl, rfl⟩) wd_2473 wd_2474 wd_2475 (by omega) (by decide) rfl (by simp [mm_crf, mm_cti, mm_ctl]) rfl dL_law_1056 ?_
  show V _ _ (.int v1056 :: _) _
  refine mD_istore C (pc := 1059) (i := 6) (lv' := [(6, .int v1056), (5, .int v1044), (0, va_rf l0), (1, va_rf l1), (2, va_rf l2), (3, va_rf l3), (4, .int l4)]) dL_law_1059 (by decide) rfl ?_
  refine mD_aload_n C (pc := 1061) 4 dL_law_1061 rfl ?_
  replace hK := mm_b2s hK; obtain ⟨v1062, h1062, e1062, hK⟩ := hK
  obtain ⟨o1062, e1062⟩ := cV_some e1062
  refine mD_callV C (pc := 1062) (d1 := 1) (As := []) (st := []) (vk := (some (.int v1062))) ((S_X12_thrown (by omega)) e1062) tT_X12_thrown o1062 (Or.inr ⟨_, rfl, rfl⟩) wd_2145 wd_2146 wd_2147 (by omega) (by decide) rfl (by simp [mm_crf, mm_cti, mm_ctl]) rfl dL_law_1062 ?_
  show V _ _ (.int v1062 :: _) _
  refine mD_iload C (pc := 1065) 1 dL_law_1065 rfl ?_
  refine mD_icmp_eq C (pc := 1067) (tgt := 1072) dL_law_1067 (by decide) (fun hc => ?_) (fun hc => ?_)
  · replace hK := mm_ip hc hK
    refine mD_iload C (pc := 1072) 1 dL_law_1072 rfl ?_
    refine mD_if_ne C (pc := 1074) (tgt := 1089) dL_law_1074 (by decide) (fun hc => ?_) (fun hc => ?_)
    · replace hK := mm_in hc hK
      refine mD_sub C [2, 3, 4, 5, 6] rfl ?_
      exact w_L_law_1089 hd C (fun z0 z1 z2 z3 z4 z5 hK => q23 z0 z1 z2 z3 z4 z5 hK) _ _ _ _ _ _ hK
    · replace hK := mm_ip hc hK
      refine mD_aload_n C (pc := 1077) 5 dL_law_1077 rfl ?_
      refine mD_iconst C (pc := 1078) (v := (0 : Int32)) dL_law_1078 (by decide) ?_
      replace hK := mm_bd hK; obtain ⟨v1079, e1079, hK⟩ := hK
      refine mD_lald C (pc := 1079) dL_law_1079 e1079 ?_
      refine mD_iload C (pc := 1080) 0 dL_law_1080 rfl ?_
      refine mD_i2l C (pc := 1082) dL_law_1082 ?_
      refine mD_lcmp C (pc := 1083) dL_law_1083 ?_
      refine mD_if_eq C (pc := 1084) (tgt := 1089) dL_law_1084 (by decide) (fun hc => ?_) (fun hc => ?_)
      · replace hK := mm_ip hc hK
        refine mD_sub C [2, 3, 4, 5, 6] rfl ?_
        exact w_L_law_1089 hd C (fun z0 z1 z2 z3 z4 z5 hK => q23 z0 z1 z2 z3 z4 z5 hK) _ _ _ _ _ _ hK
      · replace hK := mm_in hc hK
        refine mD_iconst C (pc := 1087) (v := (0 : Int32)) dL_law_1087 (by decide) ?_
        replace hK := rZ_some hK; obtain ⟨hv1088, hK⟩ := hK
        cases hK
        exact mD_zret C (pc := 1088) rfl (mm_nrZ hv1088) dL_law_1088 rfl rfl
  · replace hK := mm_in hc hK
    refine mD_iconst C (pc := 1070) (v := (0 : Int32)) dL_law_1070 (by decide) ?_
    replace hK := rZ_some hK; obtain ⟨hv1071, hK⟩ := hK
    cases hK
    exact mD_zret C (pc := 1071) rfl (mm_nrZ hv1071) dL_law_1071 rfl rfl
def F_L_law_1157 (k23 : Option Nat → Option Nat → Option Nat → Option Nat → Int32 → MH → Option (Int32 × MH)) (l0 : Option Nat) (l1 : Option Nat) (l2 : Option Nat) (l3 : Option Nat) (l4 : Int32) (h : MH) : Option (Int32 × MH) := F_L_law_2603 k23 l0 l1 l2 l3 l4 h
set_option maxRecDepth 20000 in
set_option maxHeartbeats 4000000 in
theorem w_L_law_1157 {d : Nat} {V : Nat → List (Nat × Value) → List Value → MH → Prop} {r : Int32} {hz : MH} {k23 : Option Nat → Option Nat → Option Nat → Option Nat → Int32 → MH → Option (Int32 × MH)} (hd : 141 ≤ d) (C : mm_D [] d yL_law cL_law 8 (some .boolean) (.inr (some (.int r))) hz V) (q23 : ∀ (x0 : Option Nat) (x1 : Option Nat) (x2 : Option Nat) (x3 : Option Nat) (x4 : Int32) (h : MH), k23 x0 x1 x2 x3 x4 h = some (r, hz) → V 23 [(0, va_rf x0), (1, va_rf x1), (2, va_rf x2), (3, va_rf x3), (4, .int x4)] [] h) (l0 : Option Nat) (l1 : Option Nat) (l2 : Option Nat) (l3 : Option Nat) (l4 : Int32) (h : MH) (hK : F_L_law_1157 k23 l0 l1 l2 l3 l4 h = some (r, hz)) : V 1157 [(0, va_rf l0), (1, va_rf l1), (2, va_rf l2), (3, va_rf l3), (4, .int l4)] [] h := by
  unfold F_L_law_1157 at hK
  refine mD_goto C (pc := 1157) (tgt := 2603) dL_law_1157 (by decide) ?_
  exact w_L_law_2603 hd C (fun z0 z1 z2 z3 z4 z5 hK => q23 z0 z1 z2 z3 z4 z5 hK) _ _ _ _ _ _ hK
def F_L_law_1092 (k23 : Option Nat → Option Nat → Option Nat → Option Nat → Int32 → MH → Option (Int32 × MH)) (l0 : Option Nat) (l1 : Option Nat) (l2 : Option Nat) (l3 : Option Nat) (l4 : Int32) (h : MH) : Option (Int32 × MH) := (aS h l0 (l4 + (1 : Int32))).bind fun v1098 => (aS h l0 (l4 + (2 : Int32))).bind fun v1104 => mm_b2 (F_L_spring l1 v1098 v1104 l3 h) fun v1106 h1106 => (aS h1106 l0 (l4 + (1 : Int32))).bind fun v1117 => (aS h1106 l0 (l4 + (2 : Int32))).bind fun v1123 => mm_b2 (cV h1106 l2 12 (F_X12_spring l2 v1117 v1123 h1106)) fun v1124 h1124 => mm_b2 (cV h1124 l2 12 (F_X12_thrown l2 h1124)) fun v1130 h1130 => if v1130 = v1106 then (if v1106 = 0 then ((aL h1130 l3 (0 : Int32)).bind fun v1147 => if (lg_cmp v1147 (v1124.toInt64)) = 0 then (F_L_law_1157 k23 l0 l1 l2 l3 l4 h1130) else (rZ (0 : Int32) h1130)) else (F_L_law_1157 k23 l0 l1 l2 l3 l4 h1130)) else (rZ (0 : Int32) h1130)
set_option maxRecDepth 20000 in
set_option maxHeartbeats 4000000 in
theorem w_L_law_1092 {d : Nat} {V : Nat → List (Nat × Value) → List Value → MH → Prop} {r : Int32} {hz : MH} {k23 : Option Nat → Option Nat → Option Nat → Option Nat → Int32 → MH → Option (Int32 × MH)} (hd : 141 ≤ d) (C : mm_D [] d yL_law cL_law 8 (some .boolean) (.inr (some (.int r))) hz V) (q23 : ∀ (x0 : Option Nat) (x1 : Option Nat) (x2 : Option Nat) (x3 : Option Nat) (x4 : Int32) (h : MH), k23 x0 x1 x2 x3 x4 h = some (r, hz) → V 23 [(0, va_rf x0), (1, va_rf x1), (2, va_rf x2), (3, va_rf x3), (4, .int x4)] [] h) (l0 : Option Nat) (l1 : Option Nat) (l2 : Option Nat) (l3 : Option Nat) (l4 : Int32) (h : MH) (hK : F_L_law_1092 k23 l0 l1 l2 l3 l4 h = some (r, hz)) : V 1092 [(0, va_rf l0), (1, va_rf l1), (2, va_rf l2), (3, va_rf l3), (4, .int l4)] [] h := by
  unfold F_L_law_1092 at hK
  refine mD_aload_n C (pc := 1092) 1 dL_law_1092 rfl ?_
  refine mD_aload_n C (pc := 1093) 0 dL_law_1093 rfl ?_
  refine mD_iload C (pc := 1094) 4 dL_law_1094 rfl ?_
  refine mD_iconst C (pc := 1096) (v := (1 : Int32)) dL_law_1096 (by decide) ?_
  refine mD_iadd C (pc := 1097) dL_law_1097 ?_
  replace hK := mm_bd hK; obtain ⟨v1098, e1098, hK⟩ := hK
  refine mD_sald C (pc := 1098) dL_law_1098 e1098 ?_
  refine mD_aload_n C (pc := 1099) 0 dL_law_1099 rfl ?_
  refine mD_iload C (pc := 1100) 4 dL_law_1100 rfl ?_
  refine mD_iconst C (pc := 1102) (v := (2 : Int32)) dL_law_1102 (by decide) ?_
  refine mD_iadd C (pc := 1103) dL_law_1103 ?_
  replace hK := mm_bd hK; obtain ⟨v1104, e1104, hK⟩ := hK
  refine mD_sald C (pc := 1104) dL_law_1104 e1104 ?_
  refine mD_aload_n C (pc := 1105) 3 dL_law_1105 rfl ?_
  replace hK := mm_b2s hK; obtain ⟨v1106, h1106, e1106, hK⟩ := hK
  refine mD_callSW C (pc := 1106) (d1 := 9) (As := [va_rf l1, .int v1098, .int v1104, va_rf l3]) (st := []) (vk := (some (.int v1106))) ((S_L_spring (by omega)) e1106) tT_L_spring wd_1607 wd_1608 (by omega) (by decide) rfl (by simp [mm_crf, mm_cti, mm_ctl]) rfl dL_law_1106 ?_
  show V _ _ (.int v1106 :: _) _
  refine mD_istore C (pc := 1109) (i := 5) (lv' := [(5, .int v1106), (0, va_rf l0), (1, va_rf l1), (2, va_rf l2), (3, va_rf l3), (4, .int l4)]) dL_law_1109 (by decide) rfl ?_
  refine mD_aload_n C (pc := 1111) 3 dL_law_1111 rfl ?_
  refine mD_aload_n C (pc := 1112) 1 dL_law_1112 rfl ?_
  refine mD_iload C (pc := 1113) 5 dL_law_1113 rfl ?_
  refine mD_iconst C (pc := 1115) (v := (1 : Int32)) dL_law_1115 (by decide) ?_
  refine mD_iadd C (pc := 1116) dL_law_1116 ?_
  replace hK := mm_bd hK; obtain ⟨v1117, e1117, hK⟩ := hK
  refine mD_sald C (pc := 1117) dL_law_1117 e1117 ?_
  refine mD_aload_n C (pc := 1118) 1 dL_law_1118 rfl ?_
  refine mD_iload C (pc := 1119) 5 dL_law_1119 rfl ?_
  refine mD_iconst C (pc := 1121) (v := (2 : Int32)) dL_law_1121 (by decide) ?_
  refine mD_iadd C (pc := 1122) dL_law_1122 ?_
  replace hK := mm_bd hK; obtain ⟨v1123, e1123, hK⟩ := hK
  refine mD_sald C (pc := 1123) dL_law_1123 e1123 ?_
  replace hK := mm_b2s hK; obtain ⟨v1124, h1124, e1124, hK⟩ := hK
  obtain ⟨o1124, e1124⟩ := cV_some e1124
  refine mD_callV C (pc := 1124) (d1 := 9) (As := [.int v1117, .int v1123]) (st := []) (vk := (some (.int v1124))) ((S_X12_spring (by omega)) e1124) tT_X12_spring o1124 (Or.inr ⟨_, rfl, rfl⟩) wd_2477 wd_2478 wd_2479 (by omega) (by decide) rfl (by simp [mm_crf, mm_cti, mm_ctl]) rfl dL_law_1124 ?_
  show V _ _ (.int v1124 :: _) _
  refine mD_istore C (pc := 1127) (i := 6) (lv' := [(6, .int v1124), (5, .int v1106), (0, va_rf l0), (1, va_rf l1), (2, va_rf l2), (3, va_rf l3), (4, .int l4)]) dL_law_1127 (by decide) rfl ?_
  refine mD_aload_n C (pc := 1129) 4 dL_law_1129 rfl ?_
  replace hK := mm_b2s hK; obtain ⟨v1130, h1130, e1130, hK⟩ := hK
  obtain ⟨o1130, e1130⟩ := cV_some e1130
  refine mD_callV C (pc := 1130) (d1 := 1) (As := []) (st := []) (vk := (some (.int v1130))) ((S_X12_thrown (by omega)) e1130) tT_X12_thrown o1130 (Or.inr ⟨_, rfl, rfl⟩) wd_2145 wd_2146 wd_2147 (by omega) (by decide) rfl (by simp [mm_crf, mm_cti, mm_ctl]) rfl dL_law_1130 ?_
  show V _ _ (.int v1130 :: _) _
  refine mD_iload C (pc := 1133) 1 dL_law_1133 rfl ?_
  refine mD_icmp_eq C (pc := 1135) (tgt := 1140) dL_law_1135 (by decide) (fun hc => ?_) (fun hc => ?_)
  · replace hK := mm_ip hc hK
    refine mD_iload C (pc := 1140) 1 dL_law_1140 rfl ?_
    refine mD_if_ne C (pc := 1142) (tgt := 1157) dL_law_1142 (by decide) (fun hc => ?_) (fun hc => ?_)
    · replace hK := mm_in hc hK
      refine mD_sub C [2, 3, 4, 5, 6] rfl ?_
      exact w_L_law_1157 hd C (fun z0 z1 z2 z3 z4 z5 hK => q23 z0 z1 z2 z3 z4 z5 hK) _ _ _ _ _ _ hK
    · replace hK := mm_ip hc hK
      refine mD_aload_n C (pc := 1145) 5 dL_law_1145 rfl ?_
      refine mD_iconst C (pc := 1146) (v := (0 : Int32)) dL_law_1146 (by decide) ?_
      replace hK := mm_bd hK; obtain ⟨v1147, e1147, hK⟩ := hK
      refine mD_lald C (pc := 1147) dL_law_1147 e1147 ?_
      refine mD_iload C (pc := 1148) 0 dL_law_1148 rfl ?_
      refine mD_i2l C (pc := 1150) dL_law_1150 ?_
      refine mD_lcmp C (pc := 1151) dL_law_1151 ?_
      refine mD_if_eq C (pc := 1152) (tgt := 1157) dL_law_1152 (by decide) (fun hc => ?_) (fun hc => ?_)
      · replace hK := mm_ip hc hK
        refine mD_sub C [2, 3, 4, 5, 6] rfl ?_
        exact w_L_law_1157 hd C (fun z0 z1 z2 z3 z4 z5 hK => q23 z0 z1 z2 z3 z4 z5 hK) _ _ _ _ _ _ hK
      · replace hK := mm_in hc hK
        refine mD_iconst C (pc := 1155) (v := (0 : Int32)) dL_law_1155 (by decide) ?_
        replace hK := rZ_some hK; obtain ⟨hv1156, hK⟩ := hK
        cases hK
        exact mD_zret C (pc := 1156) rfl (mm_nrZ hv1156) dL_law_1156 rfl rfl
  · replace hK := mm_in hc hK
    refine mD_iconst C (pc := 1138) (v := (0 : Int32)) dL_law_1138 (by decide) ?_
    replace hK := rZ_some hK; obtain ⟨hv1139, hK⟩ := hK
    cases hK
    exact mD_zret C (pc := 1139) rfl (mm_nrZ hv1139) dL_law_1139 rfl rfl
def F_L_law_1213 (k23 : Option Nat → Option Nat → Option Nat → Option Nat → Int32 → MH → Option (Int32 × MH)) (l0 : Option Nat) (l1 : Option Nat) (l2 : Option Nat) (l3 : Option Nat) (l4 : Int32) (h : MH) : Option (Int32 × MH) := F_L_law_2603 k23 l0 l1 l2 l3 l4 h
set_option maxRecDepth 20000 in
set_option maxHeartbeats 4000000 in
theorem w_L_law_1213 {d : Nat} {V : Nat → List (Nat × Value) → List Value → MH → Prop} {r : Int32} {hz : MH} {k23 : Option Nat → Option Nat → Option Nat → Option Nat → Int32 → MH → Option (Int32 × MH)} (hd : 141 ≤ d) (C : mm_D [] d yL_law cL_law 8 (some .boolean) (.inr (some (.int r))) hz V) (q23 : ∀ (x0 : Option Nat) (x1 : Option Nat) (x2 : Option Nat) (x3 : Option Nat) (x4 : Int32) (h : MH), k23 x0 x1 x2 x3 x4 h = some (r, hz) → V 23 [(0, va_rf x0), (1, va_rf x1), (2, va_rf x2), (3, va_rf x3), (4, .int x4)] [] h) (l0 : Option Nat) (l1 : Option Nat) (l2 : Option Nat) (l3 : Option Nat) (l4 : Int32) (h : MH) (hK : F_L_law_1213 k23 l0 l1 l2 l3 l4 h = some (r, hz)) : V 1213 [(0, va_rf l0), (1, va_rf l1), (2, va_rf l2), (3, va_rf l3), (4, .int l4)] [] h := by
  unfold F_L_law_1213 at hK
  refine mD_goto C (pc := 1213) (tgt := 2603) dL_law_1213 (by decide) ?_
  exact w_L_law_2603 hd C (fun z0 z1 z2 z3 z4 z5 hK => q23 z0 z1 z2 z3 z4 z5 hK) _ _ _ _ _ _ hK
def F_L_law_1160 (k23 : Option Nat → Option Nat → Option Nat → Option Nat → Int32 → MH → Option (Int32 × MH)) (l0 : Option Nat) (l1 : Option Nat) (l2 : Option Nat) (l3 : Option Nat) (l4 : Int32) (h : MH) : Option (Int32 × MH) := (aS h l0 (l4 + (1 : Int32))).bind fun v1166 => mm_b2 (F_L_lost l1 v1166 l3 h) fun v1168 h1168 => (aS h1168 l0 (l4 + (1 : Int32))).bind fun v1179 => mm_b2 (cV h1168 l2 12 (F_X12_lost l2 v1179 h1168)) fun v1180 h1180 => mm_b2 (cV h1180 l2 12 (F_X12_thrown l2 h1180)) fun v1186 h1186 => if v1186 = v1168 then (if v1168 = 0 then ((aL h1186 l3 (0 : Int32)).bind fun v1203 => if (lg_cmp v1203 (v1180.toInt64)) = 0 then (F_L_law_1213 k23 l0 l1 l2 l3 l4 h1186) else (rZ (0 : Int32) h1186)) else (F_L_law_1213 k23 l0 l1 l2 l3 l4 h1186)) else (rZ (0 : Int32) h1186)
set_option maxRecDepth 20000 in
set_option maxHeartbeats 4000000 in
theorem w_L_law_1160 {d : Nat} {V : Nat → List (Nat × Value) → List Value → MH → Prop} {r : Int32} {hz : MH} {k23 : Option Nat → Option Nat → Option Nat → Option Nat → Int32 → MH → Option (Int32 × MH)} (hd : 141 ≤ d) (C : mm_D [] d yL_law cL_law 8 (some .boolean) (.inr (some (.int r))) hz V) (q23 : ∀ (x0 : Option Nat) (x1 : Option Nat) (x2 : Option Nat) (x3 : Option Nat) (x4 : Int32) (h : MH), k23 x0 x1 x2 x3 x4 h = some (r, hz) → V 23 [(0, va_rf x0), (1, va_rf x1), (2, va_rf x2), (3, va_rf x3), (4, .int x4)] [] h) (l0 : Option Nat) (l1 : Option Nat) (l2 : Option Nat) (l3 : Option Nat) (l4 : Int32) (h : MH) (hK : F_L_law_1160 k23 l0 l1 l2 l3 l4 h = some (r, hz)) : V 1160 [(0, va_rf l0), (1, va_rf l1), (2, va_rf l2), (3, va_rf l3), (4, .int l4)] [] h := by
  unfold F_L_law_1160 at hK
  refine mD_aload_n C (pc := 1160) 1 dL_law_1160 rfl ?_
  refine mD_aload_n C (pc := 1161) 0 dL_law_1161 rfl ?_
  refine mD_iload C (pc := 1162) 4 dL_law_1162 rfl ?_
  refine mD_iconst C (pc := 1164) (v := (1 : Int32)) dL_law_1164 (by decide) ?_
  refine mD_iadd C (pc := 1165) dL_law_1165 ?_
  replace hK := mm_bd hK; obtain ⟨v1166, e1166, hK⟩ := hK
  refine mD_sald C (pc := 1166) dL_law_1166 e1166 ?_
  refine mD_aload_n C (pc := 1167) 3 dL_law_1167 rfl ?_
  replace hK := mm_b2s hK; obtain ⟨v1168, h1168, e1168, hK⟩ := hK
  refine mD_callSW C (pc := 1168) (d1 := 9) (As := [va_rf l1, .int v1166, va_rf l3]) (st := []) (vk := (some (.int v1168))) ((S_L_lost (by omega)) e1168) tT_L_lost wd_1621 wd_1622 (by omega) (by decide) rfl (by simp [mm_crf, mm_cti, mm_ctl]) rfl dL_law_1168 ?_
  show V _ _ (.int v1168 :: _) _
  refine mD_istore C (pc := 1171) (i := 5) (lv' := [(5, .int v1168), (0, va_rf l0), (1, va_rf l1), (2, va_rf l2), (3, va_rf l3), (4, .int l4)]) dL_law_1171 (by decide) rfl ?_
  refine mD_aload_n C (pc := 1173) 3 dL_law_1173 rfl ?_
  refine mD_aload_n C (pc := 1174) 1 dL_law_1174 rfl ?_
  refine mD_iload C (pc := 1175) 5 dL_law_1175 rfl ?_
  refine mD_iconst C (pc := 1177) (v := (1 : Int32)) dL_law_1177 (by decide) ?_
  refine mD_iadd C (pc := 1178) dL_law_1178 ?_
  replace hK := mm_bd hK; obtain ⟨v1179, e1179, hK⟩ := hK
  refine mD_sald C (pc := 1179) dL_law_1179 e1179 ?_
  replace hK := mm_b2s hK; obtain ⟨v1180, h1180, e1180, hK⟩ := hK
  obtain ⟨o1180, e1180⟩ := cV_some e1180
  refine mD_callV C (pc := 1180) (d1 := 10) (As := [.int v1179]) (st := []) (vk := (some (.int v1180))) ((S_X12_lost (by omega)) e1180) tT_X12_lost o1180 (Or.inr ⟨_, rfl, rfl⟩) wd_2491 wd_2492 wd_2493 (by omega) (by decide) rfl (by simp [mm_crf, mm_cti, mm_ctl]) rfl dL_law_1180 ?_
  show V _ _ (.int v1180 :: _) _
  refine mD_istore C (pc := 1183) (i := 6) (lv' := [(6, .int v1180), (5, .int v1168), (0, va_rf l0), (1, va_rf l1), (2, va_rf l2), (3, va_rf l3), (4, .int l4)]) dL_law_1183 (by decide) rfl ?_
  refine mD_aload_n C (pc := 1185) 4 dL_law_1185 rfl ?_
  replace hK := mm_b2s hK; obtain ⟨v1186, h1186, e1186, hK⟩ := hK
  obtain ⟨o1186, e1186⟩ := cV_some e1186
  refine mD_callV C (pc := 1186) (d1 := 1) (As := []) (st := []) (vk := (some (.int v1186))) ((S_X12_thrown (by omega)) e1186) tT_X12_thrown o1186 (Or.inr ⟨_, rfl, rfl⟩) wd_2145 wd_2146 wd_2147 (by omega) (by decide) rfl (by simp [mm_crf, mm_cti, mm_ctl]) rfl dL_law_1186 ?_
  show V _ _ (.int v1186 :: _) _
  refine mD_iload C (pc := 1189) 1 dL_law_1189 rfl ?_
  refine mD_icmp_eq C (pc := 1191) (tgt := 1196) dL_law_1191 (by decide) (fun hc => ?_) (fun hc => ?_)
  · replace hK := mm_ip hc hK
    refine mD_iload C (pc := 1196) 1 dL_law_1196 rfl ?_
    refine mD_if_ne C (pc := 1198) (tgt := 1213) dL_law_1198 (by decide) (fun hc => ?_) (fun hc => ?_)
    · replace hK := mm_in hc hK
      refine mD_sub C [2, 3, 4, 5, 6] rfl ?_
      exact w_L_law_1213 hd C (fun z0 z1 z2 z3 z4 z5 hK => q23 z0 z1 z2 z3 z4 z5 hK) _ _ _ _ _ _ hK
    · replace hK := mm_ip hc hK
      refine mD_aload_n C (pc := 1201) 5 dL_law_1201 rfl ?_
      refine mD_iconst C (pc := 1202) (v := (0 : Int32)) dL_law_1202 (by decide) ?_
      replace hK := mm_bd hK; obtain ⟨v1203, e1203, hK⟩ := hK
      refine mD_lald C (pc := 1203) dL_law_1203 e1203 ?_
      refine mD_iload C (pc := 1204) 0 dL_law_1204 rfl ?_
      refine mD_i2l C (pc := 1206) dL_law_1206 ?_
      refine mD_lcmp C (pc := 1207) dL_law_1207 ?_
      refine mD_if_eq C (pc := 1208) (tgt := 1213) dL_law_1208 (by decide) (fun hc => ?_) (fun hc => ?_)
      · replace hK := mm_ip hc hK
        refine mD_sub C [2, 3, 4, 5, 6] rfl ?_
        exact w_L_law_1213 hd C (fun z0 z1 z2 z3 z4 z5 hK => q23 z0 z1 z2 z3 z4 z5 hK) _ _ _ _ _ _ hK
      · replace hK := mm_in hc hK
        refine mD_iconst C (pc := 1211) (v := (0 : Int32)) dL_law_1211 (by decide) ?_
        replace hK := rZ_some hK; obtain ⟨hv1212, hK⟩ := hK
        cases hK
        exact mD_zret C (pc := 1212) rfl (mm_nrZ hv1212) dL_law_1212 rfl rfl
  · replace hK := mm_in hc hK
    refine mD_iconst C (pc := 1194) (v := (0 : Int32)) dL_law_1194 (by decide) ?_
    replace hK := rZ_some hK; obtain ⟨hv1195, hK⟩ := hK
    cases hK
    exact mD_zret C (pc := 1195) rfl (mm_nrZ hv1195) dL_law_1195 rfl rfl
def F_L_law_1216 (k23 : Option Nat → Option Nat → Option Nat → Option Nat → Int32 → MH → Option (Int32 × MH)) (l0 : Option Nat) (l1 : Option Nat) (l2 : Option Nat) (l3 : Option Nat) (l4 : Int32) (h : MH) : Option (Int32 × MH) := mm_b2 (cV h l1 11 (F_X11_firstLost l1 h)) fun v1217 h1217 => mm_b2 (cV h1217 l2 12 (F_X12_firstLost l2 h1217)) fun v1221 h1221 => if v1217 = v1221 then (F_L_law_2603 k23 l0 l1 l2 l3 l4 h1221) else (rZ (0 : Int32) h1221)
set_option maxRecDepth 20000 in
set_option maxHeartbeats 4000000 in
theorem w_L_law_1216 {d : Nat} {V : Nat → List (Nat × Value) → List Value → MH → Prop} {r : Int32} {hz : MH} {k23 : Option Nat → Option Nat → Option Nat → Option Nat → Int32 → MH → Option (Int32 × MH)} (hd : 141 ≤ d) (C : mm_D [] d yL_law cL_law 8 (some .boolean) (.inr (some (.int r))) hz V) (q23 : ∀ (x0 : Option Nat) (x1 : Option Nat) (x2 : Option Nat) (x3 : Option Nat) (x4 : Int32) (h : MH), k23 x0 x1 x2 x3 x4 h = some (r, hz) → V 23 [(0, va_rf x0), (1, va_rf x1), (2, va_rf x2), (3, va_rf x3), (4, .int x4)] [] h) (l0 : Option Nat) (l1 : Option Nat) (l2 : Option Nat) (l3 : Option Nat) (l4 : Int32) (h : MH) (hK : F_L_law_1216 k23 l0 l1 l2 l3 l4 h = some (r, hz)) : V 1216 [(0, va_rf l0), (1, va_rf l1), (2, va_rf l2), (3, va_rf l3), (4, .int l4)] [] h := by
  unfold F_L_law_1216 at hK
  refine mD_aload_n C (pc := 1216) 1 dL_law_1216 rfl ?_
  replace hK := mm_b2s hK; obtain ⟨v1217, h1217, e1217, hK⟩ := hK
  obtain ⟨o1217, e1217⟩ := cV_some e1217
  refine mD_callV C (pc := 1217) (d1 := 7) (As := []) (st := []) (vk := (some (.int v1217))) ((S_X11_firstLost (by omega)) e1217) tT_X11_firstLost o1217 (Or.inr ⟨_, rfl, rfl⟩) wd_968 wd_969 wd_970 (by omega) (by decide) rfl (by simp [mm_crf, mm_cti, mm_ctl]) rfl dL_law_1217 ?_
  show V _ _ (.int v1217 :: _) _
  refine mD_aload_n C (pc := 1220) 2 dL_law_1220 rfl ?_
  replace hK := mm_b2s hK; obtain ⟨v1221, h1221, e1221, hK⟩ := hK
  obtain ⟨o1221, e1221⟩ := cV_some e1221
  refine mD_callV C (pc := 1221) (d1 := 8) (As := []) (st := [.int v1217]) (vk := (some (.int v1221))) ((S_X12_firstLost (by omega)) e1221) tT_X12_firstLost o1221 (Or.inr ⟨_, rfl, rfl⟩) wd_2506 wd_2507 wd_2508 (by omega) (by decide) rfl (by simp [mm_crf, mm_cti, mm_ctl]) rfl dL_law_1221 ?_
  show V _ _ (.int v1221 :: _) _
  refine mD_icmp_eq C (pc := 1224) (tgt := 2603) dL_law_1224 (by decide) (fun hc => ?_) (fun hc => ?_)
  · replace hK := mm_ip hc hK
    exact w_L_law_2603 hd C (fun z0 z1 z2 z3 z4 z5 hK => q23 z0 z1 z2 z3 z4 z5 hK) _ _ _ _ _ _ hK
  · replace hK := mm_in hc hK
    refine mD_iconst C (pc := 1227) (v := (0 : Int32)) dL_law_1227 (by decide) ?_
    replace hK := rZ_some hK; obtain ⟨hv1228, hK⟩ := hK
    cases hK
    exact mD_zret C (pc := 1228) rfl (mm_nrZ hv1228) dL_law_1228 rfl rfl
def F_L_law_1294 (k23 : Option Nat → Option Nat → Option Nat → Option Nat → Int32 → MH → Option (Int32 × MH)) (l0 : Option Nat) (l1 : Option Nat) (l2 : Option Nat) (l3 : Option Nat) (l4 : Int32) (h : MH) : Option (Int32 × MH) := F_L_law_2603 k23 l0 l1 l2 l3 l4 h
set_option maxRecDepth 20000 in
set_option maxHeartbeats 4000000 in
theorem w_L_law_1294 {d : Nat} {V : Nat → List (Nat × Value) → List Value → MH → Prop} {r : Int32} {hz : MH} {k23 : Option Nat → Option Nat → Option Nat → Option Nat → Int32 → MH → Option (Int32 × MH)} (hd : 141 ≤ d) (C : mm_D [] d yL_law cL_law 8 (some .boolean) (.inr (some (.int r))) hz V) (q23 : ∀ (x0 : Option Nat) (x1 : Option Nat) (x2 : Option Nat) (x3 : Option Nat) (x4 : Int32) (h : MH), k23 x0 x1 x2 x3 x4 h = some (r, hz) → V 23 [(0, va_rf x0), (1, va_rf x1), (2, va_rf x2), (3, va_rf x3), (4, .int x4)] [] h) (l0 : Option Nat) (l1 : Option Nat) (l2 : Option Nat) (l3 : Option Nat) (l4 : Int32) (h : MH) (hK : F_L_law_1294 k23 l0 l1 l2 l3 l4 h = some (r, hz)) : V 1294 [(0, va_rf l0), (1, va_rf l1), (2, va_rf l2), (3, va_rf l3), (4, .int l4)] [] h := by
  unfold F_L_law_1294 at hK
  refine mD_goto C (pc := 1294) (tgt := 2603) dL_law_1294 (by decide) ?_
  exact w_L_law_2603 hd C (fun z0 z1 z2 z3 z4 z5 hK => q23 z0 z1 z2 z3 z4 z5 hK) _ _ _ _ _ _ hK
def F_L_law_1229 (k23 : Option Nat → Option Nat → Option Nat → Option Nat → Int32 → MH → Option (Int32 × MH)) (l0 : Option Nat) (l1 : Option Nat) (l2 : Option Nat) (l3 : Option Nat) (l4 : Int32) (h : MH) : Option (Int32 × MH) := (aS h l0 (l4 + (1 : Int32))).bind fun v1235 => (aS h l0 (l4 + (2 : Int32))).bind fun v1241 => mm_b2 (F_L_together l1 v1235 v1241 l3 h) fun v1243 h1243 => (aS h1243 l0 (l4 + (1 : Int32))).bind fun v1254 => (aS h1243 l0 (l4 + (2 : Int32))).bind fun v1260 => mm_b2 (cV h1243 l2 12 (F_X12_together l2 v1254 v1260 h1243)) fun v1261 h1261 => mm_b2 (cV h1261 l2 12 (F_X12_thrown l2 h1261)) fun v1267 h1267 => if v1267 = v1243 then (if v1243 = 0 then ((aL h1267 l3 (0 : Int32)).bind fun v1284 => if (lg_cmp v1284 (v1261.toInt64)) = 0 then (F_L_law_1294 k23 l0 l1 l2 l3 l4 h1267) else (rZ (0 : Int32) h1267)) else (F_L_law_1294 k23 l0 l1 l2 l3 l4 h1267)) else (rZ (0 : Int32) h1267)
set_option maxRecDepth 20000 in
set_option maxHeartbeats 4000000 in
theorem w_L_law_1229 {d : Nat} {V : Nat → List (Nat × Value) → List Value → MH → Prop} {r : Int32} {hz : MH} {k23 : Option Nat → Option Nat → Option Nat → Option Nat → Int32 → MH → Option (Int32 × MH)} (hd : 141 ≤ d) (C : mm_D [] d yL_law cL_law 8 (some .boolean) (.inr (some (.int r))) hz V) (q23 : ∀ (x0 : Option Nat) (x1 : Option Nat) (x2 : Option Nat) (x3 : Option Nat) (x4 : Int32) (h : MH), k23 x0 x1 x2 x3 x4 h = some (r, hz) → V 23 [(0, va_rf x0), (1, va_rf x1), (2, va_rf x2), (3, va_rf x3), (4, .int x4)] [] h) (l0 : Option Nat) (l1 : Option Nat) (l2 : Option Nat) (l3 : Option Nat) (l4 : Int32) (h : MH) (hK : F_L_law_1229 k23 l0 l1 l2 l3 l4 h = some (r, hz)) : V 1229 [(0, va_rf l0), (1, va_rf l1), (2, va_rf l2), (3, va_rf l3), (4, .int l4)] [] h := by
  unfold F_L_law_1229 at hK
  refine mD_aload_n C (pc := 1229) 1 dL_law_1229 rfl ?_
  refine mD_aload_n C (pc := 1230) 0 dL_law_1230 rfl ?_
  refine mD_iload C (pc := 1231) 4 dL_law_1231 rfl ?_
  refine mD_iconst C (pc := 1233) (v := (1 : Int32)) dL_law_1233 (by decide) ?_
  refine mD_iadd C (pc := 1234) dL_law_1234 ?_
  replace hK := mm_bd hK; obtain ⟨v1235, e1235, hK⟩ := hK
  refine mD_sald C (pc := 1235) dL_law_1235 e1235 ?_
  refine mD_aload_n C (pc := 1236) 0 dL_law_1236 rfl ?_
  refine mD_iload C (pc := 1237) 4 dL_law_1237 rfl ?_
  refine mD_iconst C (pc := 1239) (v := (2 : Int32)) dL_law_1239 (by decide) ?_
  refine mD_iadd C (pc := 1240) dL_law_1240 ?_
  replace hK := mm_bd hK; obtain ⟨v1241, e1241, hK⟩ := hK
  refine mD_sald C (pc := 1241) dL_law_1241 e1241 ?_
  refine mD_aload_n C (pc := 1242) 3 dL_law_1242 rfl ?_
  replace hK := mm_b2s hK; obtain ⟨v1243, h1243, e1243, hK⟩ := hK
  refine mD_callSW C (pc := 1243) (d1 := 8) (As := [va_rf l1, .int v1235, .int v1241, va_rf l3]) (st := []) (vk := (some (.int v1243))) ((S_L_together (by omega)) e1243) tT_L_together wd_1631 wd_1632 (by omega) (by decide) rfl (by simp [mm_crf, mm_cti, mm_ctl]) rfl dL_law_1243 ?_
  show V _ _ (.int v1243 :: _) _
  refine mD_istore C (pc := 1246) (i := 5) (lv' := [(5, .int v1243), (0, va_rf l0), (1, va_rf l1), (2, va_rf l2), (3, va_rf l3), (4, .int l4)]) dL_law_1246 (by decide) rfl ?_
  refine mD_aload_n C (pc := 1248) 3 dL_law_1248 rfl ?_
  refine mD_aload_n C (pc := 1249) 1 dL_law_1249 rfl ?_
  refine mD_iload C (pc := 1250) 5 dL_law_1250 rfl ?_
  refine mD_iconst C (pc := 1252) (v := (1 : Int32)) dL_law_1252 (by decide) ?_
  refine mD_iadd C (pc := 1253) dL_law_1253 ?_
  replace hK := mm_bd hK; obtain ⟨v1254, e1254, hK⟩ := hK
  refine mD_sald C (pc := 1254) dL_law_1254 e1254 ?_
  refine mD_aload_n C (pc := 1255) 1 dL_law_1255 rfl ?_
  refine mD_iload C (pc := 1256) 5 dL_law_1256 rfl ?_
  refine mD_iconst C (pc := 1258) (v := (2 : Int32)) dL_law_1258 (by decide) ?_
  refine mD_iadd C (pc := 1259) dL_law_1259 ?_
  replace hK := mm_bd hK; obtain ⟨v1260, e1260, hK⟩ := hK
  refine mD_sald C (pc := 1260) dL_law_1260 e1260 ?_
  replace hK := mm_b2s hK; obtain ⟨v1261, h1261, e1261, hK⟩ := hK
  obtain ⟨o1261, e1261⟩ := cV_some e1261
  refine mD_callV C (pc := 1261) (d1 := 8) (As := [.int v1254, .int v1260]) (st := []) (vk := (some (.int v1261))) ((S_X12_together (by omega)) e1261) tT_X12_together o1261 (Or.inr ⟨_, rfl, rfl⟩) wd_2513 wd_2514 wd_2515 (by omega) (by decide) rfl (by simp [mm_crf, mm_cti, mm_ctl]) rfl dL_law_1261 ?_
  show V _ _ (.int v1261 :: _) _
  refine mD_istore C (pc := 1264) (i := 6) (lv' := [(6, .int v1261), (5, .int v1243), (0, va_rf l0), (1, va_rf l1), (2, va_rf l2), (3, va_rf l3), (4, .int l4)]) dL_law_1264 (by decide) rfl ?_
  refine mD_aload_n C (pc := 1266) 4 dL_law_1266 rfl ?_
  replace hK := mm_b2s hK; obtain ⟨v1267, h1267, e1267, hK⟩ := hK
  obtain ⟨o1267, e1267⟩ := cV_some e1267
  refine mD_callV C (pc := 1267) (d1 := 1) (As := []) (st := []) (vk := (some (.int v1267))) ((S_X12_thrown (by omega)) e1267) tT_X12_thrown o1267 (Or.inr ⟨_, rfl, rfl⟩) wd_2145 wd_2146 wd_2147 (by omega) (by decide) rfl (by simp [mm_crf, mm_cti, mm_ctl]) rfl dL_law_1267 ?_
  show V _ _ (.int v1267 :: _) _
  refine mD_iload C (pc := 1270) 1 dL_law_1270 rfl ?_
  refine mD_icmp_eq C (pc := 1272) (tgt := 1277) dL_law_1272 (by decide) (fun hc => ?_) (fun hc => ?_)
  · replace hK := mm_ip hc hK
    refine mD_iload C (pc := 1277) 1 dL_law_1277 rfl ?_
    refine mD_if_ne C (pc := 1279) (tgt := 1294) dL_law_1279 (by decide) (fun hc => ?_) (fun hc => ?_)
    · replace hK := mm_in hc hK
      refine mD_sub C [2, 3, 4, 5, 6] rfl ?_
      exact w_L_law_1294 hd C (fun z0 z1 z2 z3 z4 z5 hK => q23 z0 z1 z2 z3 z4 z5 hK) _ _ _ _ _ _ hK
    · replace hK := mm_ip hc hK
      refine mD_aload_n C (pc := 1282) 5 dL_law_1282 rfl ?_
      refine mD_iconst C (pc := 1283) (v := (0 : Int32)) dL_law_1283 (by decide) ?_
      replace hK := mm_bd hK; obtain ⟨v1284, e1284, hK⟩ := hK
      refine mD_lald C (pc := 1284) dL_law_1284 e1284 ?_
      refine mD_iload C (pc := 1285) 0 dL_law_1285 rfl ?_
      refine mD_i2l C (pc := 1287) dL_law_1287 ?_
      refine mD_lcmp C (pc := 1288) dL_law_1288 ?_
      refine mD_if_eq C (pc := 1289) (tgt := 1294) dL_law_1289 (by decide) (fun hc => ?_) (fun hc => ?_)
      · replace hK := mm_ip hc hK
        refine mD_sub C [2, 3, 4, 5, 6] rfl ?_
        exact w_L_law_1294 hd C (fun z0 z1 z2 z3 z4 z5 hK => q23 z0 z1 z2 z3 z4 z5 hK) _ _ _ _ _ _ hK
      · replace hK := mm_in hc hK
        refine mD_iconst C (pc := 1292) (v := (0 : Int32)) dL_law_1292 (by decide) ?_
        replace hK := rZ_some hK; obtain ⟨hv1293, hK⟩ := hK
        cases hK
        exact mD_zret C (pc := 1293) rfl (mm_nrZ hv1293) dL_law_1293 rfl rfl
  · replace hK := mm_in hc hK
    refine mD_iconst C (pc := 1275) (v := (0 : Int32)) dL_law_1275 (by decide) ?_
    replace hK := rZ_some hK; obtain ⟨hv1276, hK⟩ := hK
    cases hK
    exact mD_zret C (pc := 1276) rfl (mm_nrZ hv1276) dL_law_1276 rfl rfl
def F_L_law_1350 (k23 : Option Nat → Option Nat → Option Nat → Option Nat → Int32 → MH → Option (Int32 × MH)) (l0 : Option Nat) (l1 : Option Nat) (l2 : Option Nat) (l3 : Option Nat) (l4 : Int32) (h : MH) : Option (Int32 × MH) := F_L_law_2603 k23 l0 l1 l2 l3 l4 h
set_option maxRecDepth 20000 in
set_option maxHeartbeats 4000000 in
theorem w_L_law_1350 {d : Nat} {V : Nat → List (Nat × Value) → List Value → MH → Prop} {r : Int32} {hz : MH} {k23 : Option Nat → Option Nat → Option Nat → Option Nat → Int32 → MH → Option (Int32 × MH)} (hd : 141 ≤ d) (C : mm_D [] d yL_law cL_law 8 (some .boolean) (.inr (some (.int r))) hz V) (q23 : ∀ (x0 : Option Nat) (x1 : Option Nat) (x2 : Option Nat) (x3 : Option Nat) (x4 : Int32) (h : MH), k23 x0 x1 x2 x3 x4 h = some (r, hz) → V 23 [(0, va_rf x0), (1, va_rf x1), (2, va_rf x2), (3, va_rf x3), (4, .int x4)] [] h) (l0 : Option Nat) (l1 : Option Nat) (l2 : Option Nat) (l3 : Option Nat) (l4 : Int32) (h : MH) (hK : F_L_law_1350 k23 l0 l1 l2 l3 l4 h = some (r, hz)) : V 1350 [(0, va_rf l0), (1, va_rf l1), (2, va_rf l2), (3, va_rf l3), (4, .int l4)] [] h := by
  unfold F_L_law_1350 at hK
  refine mD_goto C (pc := 1350) (tgt := 2603) dL_law_1350 (by decide) ?_
  exact w_L_law_2603 hd C (fun z0 z1 z2 z3 z4 z5 hK => q23 z0 z1 z2 z3 z4 z5 hK) _ _ _ _ _ _ hK
def F_L_law_1297 (k23 : Option Nat → Option Nat → Option Nat → Option Nat → Int32 → MH → Option (Int32 × MH)) (l0 : Option Nat) (l1 : Option Nat) (l2 : Option Nat) (l3 : Option Nat) (l4 : Int32) (h : MH) : Option (Int32 × MH) := (aS h l0 (l4 + (1 : Int32))).bind fun v1303 => mm_b2 (F_L_weddings l1 v1303 l3 h) fun v1305 h1305 => (aS h1305 l0 (l4 + (1 : Int32))).bind fun v1316 => mm_b2 (cV h1305 l2 12 (F_X12_weddings l2 v1316 h1305)) fun v1317 h1317 => mm_b2 (cV h1317 l2 12 (F_X12_thrown l2 h1317)) fun v1323 h1323 => if v1323 = v1305 then (if v1305 = 0 then ((aL h1323 l3 (0 : Int32)).bind fun v1340 => if (lg_cmp v1340 (v1317.toInt64)) = 0 then (F_L_law_1350 k23 l0 l1 l2 l3 l4 h1323) else (rZ (0 : Int32) h1323)) else (F_L_law_1350 k23 l0 l1 l2 l3 l4 h1323)) else (rZ (0 : Int32) h1323)
set_option maxRecDepth 20000 in
set_option maxHeartbeats 4000000 in
theorem w_L_law_1297 {d : Nat} {V : Nat → List (Nat × Value) → List Value → MH → Prop} {r : Int32} {hz : MH} {k23 : Option Nat → Option Nat → Option Nat → Option Nat → Int32 → MH → Option (Int32 × MH)} (hd : 141 ≤ d) (C : mm_D [] d yL_law cL_law 8 (some .boolean) (.inr (some (.int r))) hz V) (q23 : ∀ (x0 : Option Nat) (x1 : Option Nat) (x2 : Option Nat) (x3 : Option Nat) (x4 : Int32) (h : MH), k23 x0 x1 x2 x3 x4 h = some (r, hz) → V 23 [(0, va_rf x0), (1, va_rf x1), (2, va_rf x2), (3, va_rf x3), (4, .int x4)] [] h) (l0 : Option Nat) (l1 : Option Nat) (l2 : Option Nat) (l3 : Option Nat) (l4 : Int32) (h : MH) (hK : F_L_law_1297 k23 l0 l1 l2 l3 l4 h = some (r, hz)) : V 1297 [(0, va_rf l0), (1, va_rf l1), (2, va_rf l2), (3, va_rf l3), (4, .int l4)] [] h := by
  unfold F_L_law_1297 at hK
  refine mD_aload_n C (pc := 1297) 1 dL_law_1297 rfl ?_
  refine mD_aload_n C (pc := 1298) 0 dL_law_1298 rfl ?_
  refine mD_iload C (pc := 1299) 4 dL_law_1299 rfl ?_
  refine mD_iconst C (pc := 1301) (v := (1 : Int32)) dL_law_1301 (by decide) ?_
  refine mD_iadd C (pc := 1302) dL_law_1302 ?_
  replace hK := mm_bd hK; obtain ⟨v1303, e1303, hK⟩ := hK
  refine mD_sald C (pc := 1303) dL_law_1303 e1303 ?_
  refine mD_aload_n C (pc := 1304) 3 dL_law_1304 rfl ?_
  replace hK := mm_b2s hK; obtain ⟨v1305, h1305, e1305, hK⟩ := hK
  refine mD_callSW C (pc := 1305) (d1 := 9) (As := [va_rf l1, .int v1303, va_rf l3]) (st := []) (vk := (some (.int v1305))) ((S_L_weddings (by omega)) e1305) tT_L_weddings wd_1644 wd_1645 (by omega) (by decide) rfl (by simp [mm_crf, mm_cti, mm_ctl]) rfl dL_law_1305 ?_
  show V _ _ (.int v1305 :: _) _
  refine mD_istore C (pc := 1308) (i := 5) (lv' := [(5, .int v1305), (0, va_rf l0), (1, va_rf l1), (2, va_rf l2), (3, va_rf l3), (4, .int l4)]) dL_law_1308 (by decide) rfl ?_
  refine mD_aload_n C (pc := 1310) 3 dL_law_1310 rfl ?_
  refine mD_aload_n C (pc := 1311) 1 dL_law_1311 rfl ?_
  refine mD_iload C (pc := 1312) 5 dL_law_1312 rfl ?_
  refine mD_iconst C (pc := 1314) (v := (1 : Int32)) dL_law_1314 (by decide) ?_
  refine mD_iadd C (pc := 1315) dL_law_1315 ?_
  replace hK := mm_bd hK; obtain ⟨v1316, e1316, hK⟩ := hK
  refine mD_sald C (pc := 1316) dL_law_1316 e1316 ?_
  replace hK := mm_b2s hK; obtain ⟨v1317, h1317, e1317, hK⟩ := hK
  obtain ⟨o1317, e1317⟩ := cV_some e1317
  refine mD_callV C (pc := 1317) (d1 := 8) (As := [.int v1316]) (st := []) (vk := (some (.int v1317))) ((S_X12_weddings (by omega)) e1317) tT_X12_weddings o1317 (Or.inr ⟨_, rfl, rfl⟩) wd_2521 wd_2522 wd_2523 (by omega) (by decide) rfl (by simp [mm_crf, mm_cti, mm_ctl]) rfl dL_law_1317 ?_
  show V _ _ (.int v1317 :: _) _
  refine mD_istore C (pc := 1320) (i := 6) (lv' := [(6, .int v1317), (5, .int v1305), (0, va_rf l0), (1, va_rf l1), (2, va_rf l2), (3, va_rf l3), (4, .int l4)]) dL_law_1320 (by decide) rfl ?_
  refine mD_aload_n C (pc := 1322) 4 dL_law_1322 rfl ?_
  replace hK := mm_b2s hK; obtain ⟨v1323, h1323, e1323, hK⟩ := hK
  obtain ⟨o1323, e1323⟩ := cV_some e1323
  refine mD_callV C (pc := 1323) (d1 := 1) (As := []) (st := []) (vk := (some (.int v1323))) ((S_X12_thrown (by omega)) e1323) tT_X12_thrown o1323 (Or.inr ⟨_, rfl, rfl⟩) wd_2145 wd_2146 wd_2147 (by omega) (by decide) rfl (by simp [mm_crf, mm_cti, mm_ctl]) rfl dL_law_1323 ?_
  show V _ _ (.int v1323 :: _) _
  refine mD_iload C (pc := 1326) 1 dL_law_1326 rfl ?_
  refine mD_icmp_eq C (pc := 1328) (tgt := 1333) dL_law_1328 (by decide) (fun hc => ?_) (fun hc => ?_)
  · replace hK := mm_ip hc hK
    refine mD_iload C (pc := 1333) 1 dL_law_1333 rfl ?_
    refine mD_if_ne C (pc := 1335) (tgt := 1350) dL_law_1335 (by decide) (fun hc => ?_) (fun hc => ?_)
    · replace hK := mm_in hc hK
      refine mD_sub C [2, 3, 4, 5, 6] rfl ?_
      exact w_L_law_1350 hd C (fun z0 z1 z2 z3 z4 z5 hK => q23 z0 z1 z2 z3 z4 z5 hK) _ _ _ _ _ _ hK
    · replace hK := mm_ip hc hK
      refine mD_aload_n C (pc := 1338) 5 dL_law_1338 rfl ?_
      refine mD_iconst C (pc := 1339) (v := (0 : Int32)) dL_law_1339 (by decide) ?_
      replace hK := mm_bd hK; obtain ⟨v1340, e1340, hK⟩ := hK
      refine mD_lald C (pc := 1340) dL_law_1340 e1340 ?_
      refine mD_iload C (pc := 1341) 0 dL_law_1341 rfl ?_
      refine mD_i2l C (pc := 1343) dL_law_1343 ?_
      refine mD_lcmp C (pc := 1344) dL_law_1344 ?_
      refine mD_if_eq C (pc := 1345) (tgt := 1350) dL_law_1345 (by decide) (fun hc => ?_) (fun hc => ?_)
      · replace hK := mm_ip hc hK
        refine mD_sub C [2, 3, 4, 5, 6] rfl ?_
        exact w_L_law_1350 hd C (fun z0 z1 z2 z3 z4 z5 hK => q23 z0 z1 z2 z3 z4 z5 hK) _ _ _ _ _ _ hK
      · replace hK := mm_in hc hK
        refine mD_iconst C (pc := 1348) (v := (0 : Int32)) dL_law_1348 (by decide) ?_
        replace hK := rZ_some hK; obtain ⟨hv1349, hK⟩ := hK
        cases hK
        exact mD_zret C (pc := 1349) rfl (mm_nrZ hv1349) dL_law_1349 rfl rfl
  · replace hK := mm_in hc hK
    refine mD_iconst C (pc := 1331) (v := (0 : Int32)) dL_law_1331 (by decide) ?_
    replace hK := rZ_some hK; obtain ⟨hv1332, hK⟩ := hK
    cases hK
    exact mD_zret C (pc := 1332) rfl (mm_nrZ hv1332) dL_law_1332 rfl rfl
def F_L_law_1406 (k23 : Option Nat → Option Nat → Option Nat → Option Nat → Int32 → MH → Option (Int32 × MH)) (l0 : Option Nat) (l1 : Option Nat) (l2 : Option Nat) (l3 : Option Nat) (l4 : Int32) (h : MH) : Option (Int32 × MH) := F_L_law_2603 k23 l0 l1 l2 l3 l4 h
set_option maxRecDepth 20000 in
set_option maxHeartbeats 4000000 in
theorem w_L_law_1406 {d : Nat} {V : Nat → List (Nat × Value) → List Value → MH → Prop} {r : Int32} {hz : MH} {k23 : Option Nat → Option Nat → Option Nat → Option Nat → Int32 → MH → Option (Int32 × MH)} (hd : 141 ≤ d) (C : mm_D [] d yL_law cL_law 8 (some .boolean) (.inr (some (.int r))) hz V) (q23 : ∀ (x0 : Option Nat) (x1 : Option Nat) (x2 : Option Nat) (x3 : Option Nat) (x4 : Int32) (h : MH), k23 x0 x1 x2 x3 x4 h = some (r, hz) → V 23 [(0, va_rf x0), (1, va_rf x1), (2, va_rf x2), (3, va_rf x3), (4, .int x4)] [] h) (l0 : Option Nat) (l1 : Option Nat) (l2 : Option Nat) (l3 : Option Nat) (l4 : Int32) (h : MH) (hK : F_L_law_1406 k23 l0 l1 l2 l3 l4 h = some (r, hz)) : V 1406 [(0, va_rf l0), (1, va_rf l1), (2, va_rf l2), (3, va_rf l3), (4, .int l4)] [] h := by
  unfold F_L_law_1406 at hK
  refine mD_goto C (pc := 1406) (tgt := 2603) dL_law_1406 (by decide) ?_
  exact w_L_law_2603 hd C (fun z0 z1 z2 z3 z4 z5 hK => q23 z0 z1 z2 z3 z4 z5 hK) _ _ _ _ _ _ hK
def F_L_law_1353 (k23 : Option Nat → Option Nat → Option Nat → Option Nat → Int32 → MH → Option (Int32 × MH)) (l0 : Option Nat) (l1 : Option Nat) (l2 : Option Nat) (l3 : Option Nat) (l4 : Int32) (h : MH) : Option (Int32 × MH) := (aS h l0 (l4 + (1 : Int32))).bind fun v1359 => mm_b2 (F_L_busiest l1 v1359 l3 h) fun v1361 h1361 => (aS h1361 l0 (l4 + (1 : Int32))).bind fun v1372 => mm_b2 (cV h1361 l2 12 (F_X12_busiest l2 v1372 h1361)) fun v1373 h1373 => mm_b2 (cV h1373 l2 12 (F_X12_thrown l2 h1373)) fun v1379 h1379 => if v1379 = v1361 then (if v1361 = 0 then ((aL h1379 l3 (0 : Int32)).bind fun v1396 => if (lg_cmp v1396 (v1373.toInt64)) = 0 then (F_L_law_1406 k23 l0 l1 l2 l3 l4 h1379) else (rZ (0 : Int32) h1379)) else (F_L_law_1406 k23 l0 l1 l2 l3 l4 h1379)) else (rZ (0 : Int32) h1379)
set_option maxRecDepth 20000 in
set_option maxHeartbeats 4000000 in
theorem w_L_law_1353 {d : Nat} {V : Nat → List (Nat × Value) → List Value → MH → Prop} {r : Int32} {hz : MH} {k23 : Option Nat → Option Nat → Option Nat → Option Nat → Int32 → MH → Option (Int32 × MH)} (hd : 141 ≤ d) (C : mm_D [] d yL_law cL_law 8 (some .boolean) (.inr (some (.int r))) hz V) (q23 : ∀ (x0 : Option Nat) (x1 : Option Nat) (x2 : Option Nat) (x3 : Option Nat) (x4 : Int32) (h : MH), k23 x0 x1 x2 x3 x4 h = some (r, hz) → V 23 [(0, va_rf x0), (1, va_rf x1), (2, va_rf x2), (3, va_rf x3), (4, .int x4)] [] h) (l0 : Option Nat) (l1 : Option Nat) (l2 : Option Nat) (l3 : Option Nat) (l4 : Int32) (h : MH) (hK : F_L_law_1353 k23 l0 l1 l2 l3 l4 h = some (r, hz)) : V 1353 [(0, va_rf l0), (1, va_rf l1), (2, va_rf l2), (3, va_rf l3), (4, .int l4)] [] h := by
  unfold F_L_law_1353 at hK
  refine mD_aload_n C (pc := 1353) 1 dL_law_1353 rfl ?_
  refine mD_aload_n C (pc := 1354) 0 dL_law_1354 rfl ?_
  refine mD_iload C (pc := 1355) 4 dL_law_1355 rfl ?_
  refine mD_iconst C (pc := 1357) (v := (1 : Int32)) dL_law_1357 (by decide) ?_
  refine mD_iadd C (pc := 1358) dL_law_1358 ?_
  replace hK := mm_bd hK; obtain ⟨v1359, e1359, hK⟩ := hK
  refine mD_sald C (pc := 1359) dL_law_1359 e1359 ?_
  refine mD_aload_n C (pc := 1360) 3 dL_law_1360 rfl ?_
  replace hK := mm_b2s hK; obtain ⟨v1361, h1361, e1361, hK⟩ := hK
  refine mD_callSW C (pc := 1361) (d1 := 9) (As := [va_rf l1, .int v1359, va_rf l3]) (st := []) (vk := (some (.int v1361))) ((S_L_busiest (by omega)) e1361) tT_L_busiest wd_1651 wd_1652 (by omega) (by decide) rfl (by simp [mm_crf, mm_cti, mm_ctl]) rfl dL_law_1361 ?_
  show V _ _ (.int v1361 :: _) _
  refine mD_istore C (pc := 1364) (i := 5) (lv' := [(5, .int v1361), (0, va_rf l0), (1, va_rf l1), (2, va_rf l2), (3, va_rf l3), (4, .int l4)]) dL_law_1364 (by decide) rfl ?_
  refine mD_aload_n C (pc := 1366) 3 dL_law_1366 rfl ?_
  refine mD_aload_n C (pc := 1367) 1 dL_law_1367 rfl ?_
  refine mD_iload C (pc := 1368) 5 dL_law_1368 rfl ?_
  refine mD_iconst C (pc := 1370) (v := (1 : Int32)) dL_law_1370 (by decide) ?_
  refine mD_iadd C (pc := 1371) dL_law_1371 ?_
  replace hK := mm_bd hK; obtain ⟨v1372, e1372, hK⟩ := hK
  refine mD_sald C (pc := 1372) dL_law_1372 e1372 ?_
  replace hK := mm_b2s hK; obtain ⟨v1373, h1373, e1373, hK⟩ := hK
  obtain ⟨o1373, e1373⟩ := cV_some e1373
  refine mD_callV C (pc := 1373) (d1 := 8) (As := [.int v1372]) (st := []) (vk := (some (.int v1373))) ((S_X12_busiest (by omega)) e1373) tT_X12_busiest o1373 (Or.inr ⟨_, rfl, rfl⟩) wd_2525 wd_2526 wd_2527 (by omega) (by decide) rfl (by simp [mm_crf, mm_cti, mm_ctl]) rfl dL_law_1373 ?_
  show V _ _ (.int v1373 :: _) _
  refine mD_istore C (pc := 1376) (i := 6) (lv' := [(6, .int v1373), (5, .int v1361), (0, va_rf l0), (1, va_rf l1), (2, va_rf l2), (3, va_rf l3), (4, .int l4)]) dL_law_1376 (by decide) rfl ?_
  refine mD_aload_n C (pc := 1378) 4 dL_law_1378 rfl ?_
  replace hK := mm_b2s hK; obtain ⟨v1379, h1379, e1379, hK⟩ := hK
  obtain ⟨o1379, e1379⟩ := cV_some e1379
  refine mD_callV C (pc := 1379) (d1 := 1) (As := []) (st := []) (vk := (some (.int v1379))) ((S_X12_thrown (by omega)) e1379) tT_X12_thrown o1379 (Or.inr ⟨_, rfl, rfl⟩) wd_2145 wd_2146 wd_2147 (by omega) (by decide) rfl (by simp [mm_crf, mm_cti, mm_ctl]) rfl dL_law_1379 ?_
  show V _ _ (.int v1379 :: _) _
  refine mD_iload C (pc := 1382) 1 dL_law_1382 rfl ?_
  refine mD_icmp_eq C (pc := 1384) (tgt := 1389) dL_law_1384 (by decide) (fun hc => ?_) (fun hc => ?_)
  · replace hK := mm_ip hc hK
    refine mD_iload C (pc := 1389) 1 dL_law_1389 rfl ?_
    refine mD_if_ne C (pc := 1391) (tgt := 1406) dL_law_1391 (by decide) (fun hc => ?_) (fun hc => ?_)
    · replace hK := mm_in hc hK
      refine mD_sub C [2, 3, 4, 5, 6] rfl ?_
      exact w_L_law_1406 hd C (fun z0 z1 z2 z3 z4 z5 hK => q23 z0 z1 z2 z3 z4 z5 hK) _ _ _ _ _ _ hK
    · replace hK := mm_ip hc hK
      refine mD_aload_n C (pc := 1394) 5 dL_law_1394 rfl ?_
      refine mD_iconst C (pc := 1395) (v := (0 : Int32)) dL_law_1395 (by decide) ?_
      replace hK := mm_bd hK; obtain ⟨v1396, e1396, hK⟩ := hK
      refine mD_lald C (pc := 1396) dL_law_1396 e1396 ?_
      refine mD_iload C (pc := 1397) 0 dL_law_1397 rfl ?_
      refine mD_i2l C (pc := 1399) dL_law_1399 ?_
      refine mD_lcmp C (pc := 1400) dL_law_1400 ?_
      refine mD_if_eq C (pc := 1401) (tgt := 1406) dL_law_1401 (by decide) (fun hc => ?_) (fun hc => ?_)
      · replace hK := mm_ip hc hK
        refine mD_sub C [2, 3, 4, 5, 6] rfl ?_
        exact w_L_law_1406 hd C (fun z0 z1 z2 z3 z4 z5 hK => q23 z0 z1 z2 z3 z4 z5 hK) _ _ _ _ _ _ hK
      · replace hK := mm_in hc hK
        refine mD_iconst C (pc := 1404) (v := (0 : Int32)) dL_law_1404 (by decide) ?_
        replace hK := rZ_some hK; obtain ⟨hv1405, hK⟩ := hK
        cases hK
        exact mD_zret C (pc := 1405) rfl (mm_nrZ hv1405) dL_law_1405 rfl rfl
  · replace hK := mm_in hc hK
    refine mD_iconst C (pc := 1387) (v := (0 : Int32)) dL_law_1387 (by decide) ?_
    replace hK := rZ_some hK; obtain ⟨hv1388, hK⟩ := hK
    cases hK
    exact mD_zret C (pc := 1388) rfl (mm_nrZ hv1388) dL_law_1388 rfl rfl
def F_L_law_1462 (k23 : Option Nat → Option Nat → Option Nat → Option Nat → Int32 → MH → Option (Int32 × MH)) (l0 : Option Nat) (l1 : Option Nat) (l2 : Option Nat) (l3 : Option Nat) (l4 : Int32) (h : MH) : Option (Int32 × MH) := F_L_law_2603 k23 l0 l1 l2 l3 l4 h
set_option maxRecDepth 20000 in
set_option maxHeartbeats 4000000 in
theorem w_L_law_1462 {d : Nat} {V : Nat → List (Nat × Value) → List Value → MH → Prop} {r : Int32} {hz : MH} {k23 : Option Nat → Option Nat → Option Nat → Option Nat → Int32 → MH → Option (Int32 × MH)} (hd : 141 ≤ d) (C : mm_D [] d yL_law cL_law 8 (some .boolean) (.inr (some (.int r))) hz V) (q23 : ∀ (x0 : Option Nat) (x1 : Option Nat) (x2 : Option Nat) (x3 : Option Nat) (x4 : Int32) (h : MH), k23 x0 x1 x2 x3 x4 h = some (r, hz) → V 23 [(0, va_rf x0), (1, va_rf x1), (2, va_rf x2), (3, va_rf x3), (4, .int x4)] [] h) (l0 : Option Nat) (l1 : Option Nat) (l2 : Option Nat) (l3 : Option Nat) (l4 : Int32) (h : MH) (hK : F_L_law_1462 k23 l0 l1 l2 l3 l4 h = some (r, hz)) : V 1462 [(0, va_rf l0), (1, va_rf l1), (2, va_rf l2), (3, va_rf l3), (4, .int l4)] [] h := by
  unfold F_L_law_1462 at hK
  refine mD_goto C (pc := 1462) (tgt := 2603) dL_law_1462 (by decide) ?_
  exact w_L_law_2603 hd C (fun z0 z1 z2 z3 z4 z5 hK => q23 z0 z1 z2 z3 z4 z5 hK) _ _ _ _ _ _ hK
def F_L_law_1409 (k23 : Option Nat → Option Nat → Option Nat → Option Nat → Int32 → MH → Option (Int32 × MH)) (l0 : Option Nat) (l1 : Option Nat) (l2 : Option Nat) (l3 : Option Nat) (l4 : Int32) (h : MH) : Option (Int32 × MH) := (aS h l0 (l4 + (1 : Int32))).bind fun v1415 => mm_b2 (F_L_hog l1 v1415 l3 h) fun v1417 h1417 => (aS h1417 l0 (l4 + (1 : Int32))).bind fun v1428 => mm_b2 (cV h1417 l2 12 (F_X12_hog l2 v1428 h1417)) fun v1429 h1429 => mm_b2 (cV h1429 l2 12 (F_X12_thrown l2 h1429)) fun v1435 h1435 => if v1435 = v1417 then (if v1417 = 0 then ((aL h1435 l3 (0 : Int32)).bind fun v1452 => if (lg_cmp v1452 (v1429.toInt64)) = 0 then (F_L_law_1462 k23 l0 l1 l2 l3 l4 h1435) else (rZ (0 : Int32) h1435)) else (F_L_law_1462 k23 l0 l1 l2 l3 l4 h1435)) else (rZ (0 : Int32) h1435)
set_option maxRecDepth 20000 in
set_option maxHeartbeats 4000000 in
theorem w_L_law_1409 {d : Nat} {V : Nat → List (Nat × Value) → List Value → MH → Prop} {r : Int32} {hz : MH} {k23 : Option Nat → Option Nat → Option Nat → Option Nat → Int32 → MH → Option (Int32 × MH)} (hd : 141 ≤ d) (C : mm_D [] d yL_law cL_law 8 (some .boolean) (.inr (some (.int r))) hz V) (q23 : ∀ (x0 : Option Nat) (x1 : Option Nat) (x2 : Option Nat) (x3 : Option Nat) (x4 : Int32) (h : MH), k23 x0 x1 x2 x3 x4 h = some (r, hz) → V 23 [(0, va_rf x0), (1, va_rf x1), (2, va_rf x2), (3, va_rf x3), (4, .int x4)] [] h) (l0 : Option Nat) (l1 : Option Nat) (l2 : Option Nat) (l3 : Option Nat) (l4 : Int32) (h : MH) (hK : F_L_law_1409 k23 l0 l1 l2 l3 l4 h = some (r, hz)) : V 1409 [(0, va_rf l0), (1, va_rf l1), (2, va_rf l2), (3, va_rf l3), (4, .int l4)] [] h := by
  unfold F_L_law_1409 at hK
  refine mD_aload_n C (pc := 1409) 1 dL_law_1409 rfl ?_
  refine mD_aload_n C (pc := 1410) 0 dL_law_1410 rfl ?_
  refine mD_iload C (pc := 1411) 4 dL_law_1411 rfl ?_
  refine mD_iconst C (pc := 1413) (v := (1 : Int32)) dL_law_1413 (by decide) ?_
  refine mD_iadd C (pc := 1414) dL_law_1414 ?_
  replace hK := mm_bd hK; obtain ⟨v1415, e1415, hK⟩ := hK
  refine mD_sald C (pc := 1415) dL_law_1415 e1415 ?_
  refine mD_aload_n C (pc := 1416) 3 dL_law_1416 rfl ?_
  replace hK := mm_b2s hK; obtain ⟨v1417, h1417, e1417, hK⟩ := hK
  refine mD_callSW C (pc := 1417) (d1 := 9) (As := [va_rf l1, .int v1415, va_rf l3]) (st := []) (vk := (some (.int v1417))) ((S_L_hog (by omega)) e1417) tT_L_hog wd_1668 wd_1669 (by omega) (by decide) rfl (by simp [mm_crf, mm_cti, mm_ctl]) rfl dL_law_1417 ?_
  show V _ _ (.int v1417 :: _) _
  refine mD_istore C (pc := 1420) (i := 5) (lv' := [(5, .int v1417), (0, va_rf l0), (1, va_rf l1), (2, va_rf l2), (3, va_rf l3), (4, .int l4)]) dL_law_1420 (by decide) rfl ?_
  refine mD_aload_n C (pc := 1422) 3 dL_law_1422 rfl ?_
  refine mD_aload_n C (pc := 1423) 1 dL_law_1423 rfl ?_
  refine mD_iload C (pc := 1424) 5 dL_law_1424 rfl ?_
  refine mD_iconst C (pc := 1426) (v := (1 : Int32)) dL_law_1426 (by decide) ?_
  refine mD_iadd C (pc := 1427) dL_law_1427 ?_
  replace hK := mm_bd hK; obtain ⟨v1428, e1428, hK⟩ := hK
  refine mD_sald C (pc := 1428) dL_law_1428 e1428 ?_
  replace hK := mm_b2s hK; obtain ⟨v1429, h1429, e1429, hK⟩ := hK
  obtain ⟨o1429, e1429⟩ := cV_some e1429
  refine mD_callV C (pc := 1429) (d1 := 10) (As := [.int v1428]) (st := []) (vk := (some (.int v1429))) ((S_X12_hog (by omega)) e1429) tT_X12_hog o1429 (Or.inr ⟨_, rfl, rfl⟩) wd_2529 wd_2530 wd_2531 (by omega) (by decide) rfl (by simp [mm_crf, mm_cti, mm_ctl]) rfl dL_law_1429 ?_
  show V _ _ (.int v1429 :: _) _
  refine mD_istore C (pc := 1432) (i := 6) (lv' := [(6, .int v1429), (5, .int v1417), (0, va_rf l0), (1, va_rf l1), (2, va_rf l2), (3, va_rf l3), (4, .int l4)]) dL_law_1432 (by decide) rfl ?_
  refine mD_aload_n C (pc := 1434) 4 dL_law_1434 rfl ?_
  replace hK := mm_b2s hK; obtain ⟨v1435, h1435, e1435, hK⟩ := hK
  obtain ⟨o1435, e1435⟩ := cV_some e1435
  refine mD_callV C (pc := 1435) (d1 := 1) (As := []) (st := []) (vk := (some (.int v1435))) ((S_X12_thrown (by omega)) e1435) tT_X12_thrown o1435 (Or.inr ⟨_, rfl, rfl⟩) wd_2145 wd_2146 wd_2147 (by omega) (by decide) rfl (by simp [mm_crf, mm_cti, mm_ctl]) rfl dL_law_1435 ?_
  show V _ _ (.int v1435 :: _) _
  refine mD_iload C (pc := 1438) 1 dL_law_1438 rfl ?_
  refine mD_icmp_eq C (pc := 1440) (tgt := 1445) dL_law_1440 (by decide) (fun hc => ?_) (fun hc => ?_)
  · replace hK := mm_ip hc hK
    refine mD_iload C (pc := 1445) 1 dL_law_1445 rfl ?_
    refine mD_if_ne C (pc := 1447) (tgt := 1462) dL_law_1447 (by decide) (fun hc => ?_) (fun hc => ?_)
    · replace hK := mm_in hc hK
      refine mD_sub C [2, 3, 4, 5, 6] rfl ?_
      exact w_L_law_1462 hd C (fun z0 z1 z2 z3 z4 z5 hK => q23 z0 z1 z2 z3 z4 z5 hK) _ _ _ _ _ _ hK
    · replace hK := mm_ip hc hK
      refine mD_aload_n C (pc := 1450) 5 dL_law_1450 rfl ?_
      refine mD_iconst C (pc := 1451) (v := (0 : Int32)) dL_law_1451 (by decide) ?_
      replace hK := mm_bd hK; obtain ⟨v1452, e1452, hK⟩ := hK
      refine mD_lald C (pc := 1452) dL_law_1452 e1452 ?_
      refine mD_iload C (pc := 1453) 0 dL_law_1453 rfl ?_
      refine mD_i2l C (pc := 1455) dL_law_1455 ?_
      refine mD_lcmp C (pc := 1456) dL_law_1456 ?_
      refine mD_if_eq C (pc := 1457) (tgt := 1462) dL_law_1457 (by decide) (fun hc => ?_) (fun hc => ?_)
      · replace hK := mm_ip hc hK
        refine mD_sub C [2, 3, 4, 5, 6] rfl ?_
        exact w_L_law_1462 hd C (fun z0 z1 z2 z3 z4 z5 hK => q23 z0 z1 z2 z3 z4 z5 hK) _ _ _ _ _ _ hK
      · replace hK := mm_in hc hK
        refine mD_iconst C (pc := 1460) (v := (0 : Int32)) dL_law_1460 (by decide) ?_
        replace hK := rZ_some hK; obtain ⟨hv1461, hK⟩ := hK
        cases hK
        exact mD_zret C (pc := 1461) rfl (mm_nrZ hv1461) dL_law_1461 rfl rfl
  · replace hK := mm_in hc hK
    refine mD_iconst C (pc := 1443) (v := (0 : Int32)) dL_law_1443 (by decide) ?_
    replace hK := rZ_some hK; obtain ⟨hv1444, hK⟩ := hK
    cases hK
    exact mD_zret C (pc := 1444) rfl (mm_nrZ hv1444) dL_law_1444 rfl rfl
def F_L_law_1518 (k23 : Option Nat → Option Nat → Option Nat → Option Nat → Int32 → MH → Option (Int32 × MH)) (l0 : Option Nat) (l1 : Option Nat) (l2 : Option Nat) (l3 : Option Nat) (l4 : Int32) (h : MH) : Option (Int32 × MH) := F_L_law_2603 k23 l0 l1 l2 l3 l4 h
set_option maxRecDepth 20000 in
set_option maxHeartbeats 4000000 in
theorem w_L_law_1518 {d : Nat} {V : Nat → List (Nat × Value) → List Value → MH → Prop} {r : Int32} {hz : MH} {k23 : Option Nat → Option Nat → Option Nat → Option Nat → Int32 → MH → Option (Int32 × MH)} (hd : 141 ≤ d) (C : mm_D [] d yL_law cL_law 8 (some .boolean) (.inr (some (.int r))) hz V) (q23 : ∀ (x0 : Option Nat) (x1 : Option Nat) (x2 : Option Nat) (x3 : Option Nat) (x4 : Int32) (h : MH), k23 x0 x1 x2 x3 x4 h = some (r, hz) → V 23 [(0, va_rf x0), (1, va_rf x1), (2, va_rf x2), (3, va_rf x3), (4, .int x4)] [] h) (l0 : Option Nat) (l1 : Option Nat) (l2 : Option Nat) (l3 : Option Nat) (l4 : Int32) (h : MH) (hK : F_L_law_1518 k23 l0 l1 l2 l3 l4 h = some (r, hz)) : V 1518 [(0, va_rf l0), (1, va_rf l1), (2, va_rf l2), (3, va_rf l3), (4, .int l4)] [] h := by
  unfold F_L_law_1518 at hK
  refine mD_goto C (pc := 1518) (tgt := 2603) dL_law_1518 (by decide) ?_
  exact w_L_law_2603 hd C (fun z0 z1 z2 z3 z4 z5 hK => q23 z0 z1 z2 z3 z4 z5 hK) _ _ _ _ _ _ hK
def F_L_law_1465 (k23 : Option Nat → Option Nat → Option Nat → Option Nat → Int32 → MH → Option (Int32 × MH)) (l0 : Option Nat) (l1 : Option Nat) (l2 : Option Nat) (l3 : Option Nat) (l4 : Int32) (h : MH) : Option (Int32 × MH) := (aS h l0 (l4 + (1 : Int32))).bind fun v1471 => mm_b2 (F_L_best l1 v1471 l3 h) fun v1473 h1473 => (aS h1473 l0 (l4 + (1 : Int32))).bind fun v1484 => mm_b2 (cV h1473 l2 12 (F_X12_best l2 v1484 h1473)) fun v1485 h1485 => mm_b2 (cV h1485 l2 12 (F_X12_thrown l2 h1485)) fun v1491 h1491 => if v1491 = v1473 then (if v1473 = 0 then ((aL h1491 l3 (0 : Int32)).bind fun v1508 => if (lg_cmp v1508 (v1485.toInt64)) = 0 then (F_L_law_1518 k23 l0 l1 l2 l3 l4 h1491) else (rZ (0 : Int32) h1491)) else (F_L_law_1518 k23 l0 l1 l2 l3 l4 h1491)) else (rZ (0 : Int32) h1491)
set_option maxRecDepth 20000 in
set_option maxHeartbeats 4000000 in
theorem w_L_law_1465 {d : Nat} {V : Nat → List (Nat × Value) → List Value → MH → Prop} {r : Int32} {hz : MH} {k23 : Option Nat → Option Nat → Option Nat → Option Nat → Int32 → MH → Option (Int32 × MH)} (hd : 141 ≤ d) (C : mm_D [] d yL_law cL_law 8 (some .boolean) (.inr (some (.int r))) hz V) (q23 : ∀ (x0 : Option Nat) (x1 : Option Nat) (x2 : Option Nat) (x3 : Option Nat) (x4 : Int32) (h : MH), k23 x0 x1 x2 x3 x4 h = some (r, hz) → V 23 [(0, va_rf x0), (1, va_rf x1), (2, va_rf x2), (3, va_rf x3), (4, .int x4)] [] h) (l0 : Option Nat) (l1 : Option Nat) (l2 : Option Nat) (l3 : Option Nat) (l4 : Int32) (h : MH) (hK : F_L_law_1465 k23 l0 l1 l2 l3 l4 h = some (r, hz)) : V 1465 [(0, va_rf l0), (1, va_rf l1), (2, va_rf l2), (3, va_rf l3), (4, .int l4)] [] h := by
  unfold F_L_law_1465 at hK
  refine mD_aload_n C (pc := 1465) 1 dL_law_1465 rfl ?_
  refine mD_aload_n C (pc := 1466) 0 dL_law_1466 rfl ?_
  refine mD_iload C (pc := 1467) 4 dL_law_1467 rfl ?_
  refine mD_iconst C (pc := 1469) (v := (1 : Int32)) dL_law_1469 (by decide) ?_
  refine mD_iadd C (pc := 1470) dL_law_1470 ?_
  replace hK := mm_bd hK; obtain ⟨v1471, e1471, hK⟩ := hK
  refine mD_sald C (pc := 1471) dL_law_1471 e1471 ?_
  refine mD_aload_n C (pc := 1472) 3 dL_law_1472 rfl ?_
  replace hK := mm_b2s hK; obtain ⟨v1473, h1473, e1473, hK⟩ := hK
  refine mD_callSW C (pc := 1473) (d1 := 69) (As := [va_rf l1, .int v1471, va_rf l3]) (st := []) (vk := (some (.int v1473))) ((S_L_best (by omega)) e1473) tT_L_best wd_1680 wd_1681 (by omega) (by decide) rfl (by simp [mm_crf, mm_cti, mm_ctl]) rfl dL_law_1473 ?_
  show V _ _ (.int v1473 :: _) _
  refine mD_istore C (pc := 1476) (i := 5) (lv' := [(5, .int v1473), (0, va_rf l0), (1, va_rf l1), (2, va_rf l2), (3, va_rf l3), (4, .int l4)]) dL_law_1476 (by decide) rfl ?_
  refine mD_aload_n C (pc := 1478) 3 dL_law_1478 rfl ?_
  refine mD_aload_n C (pc := 1479) 1 dL_law_1479 rfl ?_
  refine mD_iload C (pc := 1480) 5 dL_law_1480 rfl ?_
  refine mD_iconst C (pc := 1482) (v := (1 : Int32)) dL_law_1482 (by decide) ?_
  refine mD_iadd C (pc := 1483) dL_law_1483 ?_
  replace hK := mm_bd hK; obtain ⟨v1484, e1484, hK⟩ := hK
  refine mD_sald C (pc := 1484) dL_law_1484 e1484 ?_
  replace hK := mm_b2s hK; obtain ⟨v1485, h1485, e1485, hK⟩ := hK
  obtain ⟨o1485, e1485⟩ := cV_some e1485
  refine mD_callV C (pc := 1485) (d1 := 70) (As := [.int v1484]) (st := []) (vk := (some (.int v1485))) ((S_X12_best (by omega)) e1485) tT_X12_best o1485 (Or.inr ⟨_, rfl, rfl⟩) wd_2534 wd_2535 wd_2536 (by omega) (by decide) rfl (by simp [mm_crf, mm_cti, mm_ctl]) rfl dL_law_1485 ?_
  show V _ _ (.int v1485 :: _) _
  refine mD_istore C (pc := 1488) (i := 6) (lv' := [(6, .int v1485), (5, .int v1473), (0, va_rf l0), (1, va_rf l1), (2, va_rf l2), (3, va_rf l3), (4, .int l4)]) dL_law_1488 (by decide) rfl ?_
  refine mD_aload_n C (pc := 1490) 4 dL_law_1490 rfl ?_
  replace hK := mm_b2s hK; obtain ⟨v1491, h1491, e1491, hK⟩ := hK
  obtain ⟨o1491, e1491⟩ := cV_some e1491
  refine mD_callV C (pc := 1491) (d1 := 1) (As := []) (st := []) (vk := (some (.int v1491))) ((S_X12_thrown (by omega)) e1491) tT_X12_thrown o1491 (Or.inr ⟨_, rfl, rfl⟩) wd_2145 wd_2146 wd_2147 (by omega) (by decide) rfl (by simp [mm_crf, mm_cti, mm_ctl]) rfl dL_law_1491 ?_
  show V _ _ (.int v1491 :: _) _
  refine mD_iload C (pc := 1494) 1 dL_law_1494 rfl ?_
  refine mD_icmp_eq C (pc := 1496) (tgt := 1501) dL_law_1496 (by decide) (fun hc => ?_) (fun hc => ?_)
  · replace hK := mm_ip hc hK
    refine mD_iload C (pc := 1501) 1 dL_law_1501 rfl ?_
    refine mD_if_ne C (pc := 1503) (tgt := 1518) dL_law_1503 (by decide) (fun hc => ?_) (fun hc => ?_)
    · replace hK := mm_in hc hK
      refine mD_sub C [2, 3, 4, 5, 6] rfl ?_
      exact w_L_law_1518 hd C (fun z0 z1 z2 z3 z4 z5 hK => q23 z0 z1 z2 z3 z4 z5 hK) _ _ _ _ _ _ hK
    · replace hK := mm_ip hc hK
      refine mD_aload_n C (pc := 1506) 5 dL_law_1506 rfl ?_
      refine mD_iconst C (pc := 1507) (v := (0 : Int32)) dL_law_1507 (by decide) ?_
      replace hK := mm_bd hK; obtain ⟨v1508, e1508, hK⟩ := hK
      refine mD_lald C (pc := 1508) dL_law_1508 e1508 ?_
      refine mD_iload C (pc := 1509) 0 dL_law_1509 rfl ?_
      refine mD_i2l C (pc := 1511) dL_law_1511 ?_
      refine mD_lcmp C (pc := 1512) dL_law_1512 ?_
      refine mD_if_eq C (pc := 1513) (tgt := 1518) dL_law_1513 (by decide) (fun hc => ?_) (fun hc => ?_)
      · replace hK := mm_ip hc hK
        refine mD_sub C [2, 3, 4, 5, 6] rfl ?_
        exact w_L_law_1518 hd C (fun z0 z1 z2 z3 z4 z5 hK => q23 z0 z1 z2 z3 z4 z5 hK) _ _ _ _ _ _ hK
      · replace hK := mm_in hc hK
        refine mD_iconst C (pc := 1516) (v := (0 : Int32)) dL_law_1516 (by decide) ?_
        replace hK := rZ_some hK; obtain ⟨hv1517, hK⟩ := hK
        cases hK
        exact mD_zret C (pc := 1517) rfl (mm_nrZ hv1517) dL_law_1517 rfl rfl
  · replace hK := mm_in hc hK
    refine mD_iconst C (pc := 1499) (v := (0 : Int32)) dL_law_1499 (by decide) ?_
    replace hK := rZ_some hK; obtain ⟨hv1500, hK⟩ := hK
    cases hK
    exact mD_zret C (pc := 1500) rfl (mm_nrZ hv1500) dL_law_1500 rfl rfl
def F_L_law_1574 (k23 : Option Nat → Option Nat → Option Nat → Option Nat → Int32 → MH → Option (Int32 × MH)) (l0 : Option Nat) (l1 : Option Nat) (l2 : Option Nat) (l3 : Option Nat) (l4 : Int32) (h : MH) : Option (Int32 × MH) := F_L_law_2603 k23 l0 l1 l2 l3 l4 h
set_option maxRecDepth 20000 in
set_option maxHeartbeats 4000000 in
theorem w_L_law_1574 {d : Nat} {V : Nat → List (Nat × Value) → List Value → MH → Prop} {r : Int32} {hz : MH} {k23 : Option Nat → Option Nat → Option Nat → Option Nat → Int32 → MH → Option (Int32 × MH)} (hd : 141 ≤ d) (C : mm_D [] d yL_law cL_law 8 (some .boolean) (.inr (some (.int r))) hz V) (q23 : ∀ (x0 : Option Nat) (x1 : Option Nat) (x2 : Option Nat) (x3 : Option Nat) (x4 : Int32) (h : MH), k23 x0 x1 x2 x3 x4 h = some (r, hz) → V 23 [(0, va_rf x0), (1, va_rf x1), (2, va_rf x2), (3, va_rf x3), (4, .int x4)] [] h) (l0 : Option Nat) (l1 : Option Nat) (l2 : Option Nat) (l3 : Option Nat) (l4 : Int32) (h : MH) (hK : F_L_law_1574 k23 l0 l1 l2 l3 l4 h = some (r, hz)) : V 1574 [(0, va_rf l0), (1, va_rf l1), (2, va_rf l2), (3, va_rf l3), (4, .int l4)] [] h := by
  unfold F_L_law_1574 at hK
  refine mD_goto C (pc := 1574) (tgt := 2603) dL_law_1574 (by decide) ?_
  exact w_L_law_2603 hd C (fun z0 z1 z2 z3 z4 z5 hK => q23 z0 z1 z2 z3 z4 z5 hK) _ _ _ _ _ _ hK
def F_L_law_1521 (k23 : Option Nat → Option Nat → Option Nat → Option Nat → Int32 → MH → Option (Int32 × MH)) (l0 : Option Nat) (l1 : Option Nat) (l2 : Option Nat) (l3 : Option Nat) (l4 : Int32) (h : MH) : Option (Int32 × MH) := (aS h l0 (l4 + (1 : Int32))).bind fun v1527 => mm_b2 (F_L_bestBy l1 v1527 l3 h) fun v1529 h1529 => (aS h1529 l0 (l4 + (1 : Int32))).bind fun v1540 => mm_b2 (cV h1529 l2 12 (F_X12_bestBy l2 v1540 h1529)) fun v1541 h1541 => mm_b2 (cV h1541 l2 12 (F_X12_thrown l2 h1541)) fun v1547 h1547 => if v1547 = v1529 then (if v1529 = 0 then ((aL h1547 l3 (0 : Int32)).bind fun v1564 => if (lg_cmp v1564 (v1541.toInt64)) = 0 then (F_L_law_1574 k23 l0 l1 l2 l3 l4 h1547) else (rZ (0 : Int32) h1547)) else (F_L_law_1574 k23 l0 l1 l2 l3 l4 h1547)) else (rZ (0 : Int32) h1547)
set_option maxRecDepth 20000 in
set_option maxHeartbeats 4000000 in
theorem w_L_law_1521 {d : Nat} {V : Nat → List (Nat × Value) → List Value → MH → Prop} {r : Int32} {hz : MH} {k23 : Option Nat → Option Nat → Option Nat → Option Nat → Int32 → MH → Option (Int32 × MH)} (hd : 141 ≤ d) (C : mm_D [] d yL_law cL_law 8 (some .boolean) (.inr (some (.int r))) hz V) (q23 : ∀ (x0 : Option Nat) (x1 : Option Nat) (x2 : Option Nat) (x3 : Option Nat) (x4 : Int32) (h : MH), k23 x0 x1 x2 x3 x4 h = some (r, hz) → V 23 [(0, va_rf x0), (1, va_rf x1), (2, va_rf x2), (3, va_rf x3), (4, .int x4)] [] h) (l0 : Option Nat) (l1 : Option Nat) (l2 : Option Nat) (l3 : Option Nat) (l4 : Int32) (h : MH) (hK : F_L_law_1521 k23 l0 l1 l2 l3 l4 h = some (r, hz)) : V 1521 [(0, va_rf l0), (1, va_rf l1), (2, va_rf l2), (3, va_rf l3), (4, .int l4)] [] h := by
  unfold F_L_law_1521 at hK
  refine mD_aload_n C (pc := 1521) 1 dL_law_1521 rfl ?_
  refine mD_aload_n C (pc := 1522) 0 dL_law_1522 rfl ?_
  refine mD_iload C (pc := 1523) 4 dL_law_1523 rfl ?_
  refine mD_iconst C (pc := 1525) (v := (1 : Int32)) dL_law_1525 (by decide) ?_
  refine mD_iadd C (pc := 1526) dL_law_1526 ?_
  replace hK := mm_bd hK; obtain ⟨v1527, e1527, hK⟩ := hK
  refine mD_sald C (pc := 1527) dL_law_1527 e1527 ?_
  refine mD_aload_n C (pc := 1528) 3 dL_law_1528 rfl ?_
  replace hK := mm_b2s hK; obtain ⟨v1529, h1529, e1529, hK⟩ := hK
  refine mD_callSW C (pc := 1529) (d1 := 69) (As := [va_rf l1, .int v1527, va_rf l3]) (st := []) (vk := (some (.int v1529))) ((S_L_bestBy (by omega)) e1529) tT_L_bestBy wd_1736 wd_1737 (by omega) (by decide) rfl (by simp [mm_crf, mm_cti, mm_ctl]) rfl dL_law_1529 ?_
  show V _ _ (.int v1529 :: _) _
  refine mD_istore C (pc := 1532) (i := 5) (lv' := [(5, .int v1529), (0, va_rf l0), (1, va_rf l1), (2, va_rf l2), (3, va_rf l3), (4, .int l4)]) dL_law_1532 (by decide) rfl ?_
  refine mD_aload_n C (pc := 1534) 3 dL_law_1534 rfl ?_
  refine mD_aload_n C (pc := 1535) 1 dL_law_1535 rfl ?_
  refine mD_iload C (pc := 1536) 5 dL_law_1536 rfl ?_
  refine mD_iconst C (pc := 1538) (v := (1 : Int32)) dL_law_1538 (by decide) ?_
  refine mD_iadd C (pc := 1539) dL_law_1539 ?_
  replace hK := mm_bd hK; obtain ⟨v1540, e1540, hK⟩ := hK
  refine mD_sald C (pc := 1540) dL_law_1540 e1540 ?_
  replace hK := mm_b2s hK; obtain ⟨v1541, h1541, e1541, hK⟩ := hK
  obtain ⟨o1541, e1541⟩ := cV_some e1541
  refine mD_callV C (pc := 1541) (d1 := 70) (As := [.int v1540]) (st := []) (vk := (some (.int v1541))) ((S_X12_bestBy (by omega)) e1541) tT_X12_bestBy o1541 (Or.inr ⟨_, rfl, rfl⟩) wd_2558 wd_2559 wd_2560 (by omega) (by decide) rfl (by simp [mm_crf, mm_cti, mm_ctl]) rfl dL_law_1541 ?_
  show V _ _ (.int v1541 :: _) _
  refine mD_istore C (pc := 1544) (i := 6) (lv' := [(6, .int v1541), (5, .int v1529), (0, va_rf l0), (1, va_rf l1), (2, va_rf l2), (3, va_rf l3), (4, .int l4)]) dL_law_1544 (by decide) rfl ?_
  refine mD_aload_n C (pc := 1546) 4 dL_law_1546 rfl ?_
  replace hK := mm_b2s hK; obtain ⟨v1547, h1547, e1547, hK⟩ := hK
  obtain ⟨o1547, e1547⟩ := cV_some e1547
  refine mD_callV C (pc := 1547) (d1 := 1) (As := []) (st := []) (vk := (some (.int v1547))) ((S_X12_thrown (by omega)) e1547) tT_X12_thrown o1547 (Or.inr ⟨_, rfl, rfl⟩) wd_2145 wd_2146 wd_2147 (by omega) (by decide) rfl (by simp [mm_crf, mm_cti, mm_ctl]) rfl dL_law_1547 ?_
  show V _ _ (.int v1547 :: _) _
  refine mD_iload C (pc := 1550) 1 dL_law_1550 rfl ?_
  refine mD_icmp_eq C (pc := 1552) (tgt := 1557) dL_law_1552 (by decide) (fun hc => ?_) (fun hc => ?_)
  · replace hK := mm_ip hc hK
    refine mD_iload C (pc := 1557) 1 dL_law_1557 rfl ?_
    refine mD_if_ne C (pc := 1559) (tgt := 1574) dL_law_1559 (by decide) (fun hc => ?_) (fun hc => ?_)
    · replace hK := mm_in hc hK
      refine mD_sub C [2, 3, 4, 5, 6] rfl ?_
      exact w_L_law_1574 hd C (fun z0 z1 z2 z3 z4 z5 hK => q23 z0 z1 z2 z3 z4 z5 hK) _ _ _ _ _ _ hK
    · replace hK := mm_ip hc hK
      refine mD_aload_n C (pc := 1562) 5 dL_law_1562 rfl ?_
      refine mD_iconst C (pc := 1563) (v := (0 : Int32)) dL_law_1563 (by decide) ?_
      replace hK := mm_bd hK; obtain ⟨v1564, e1564, hK⟩ := hK
      refine mD_lald C (pc := 1564) dL_law_1564 e1564 ?_
      refine mD_iload C (pc := 1565) 0 dL_law_1565 rfl ?_
      refine mD_i2l C (pc := 1567) dL_law_1567 ?_
      refine mD_lcmp C (pc := 1568) dL_law_1568 ?_
      refine mD_if_eq C (pc := 1569) (tgt := 1574) dL_law_1569 (by decide) (fun hc => ?_) (fun hc => ?_)
      · replace hK := mm_ip hc hK
        refine mD_sub C [2, 3, 4, 5, 6] rfl ?_
        exact w_L_law_1574 hd C (fun z0 z1 z2 z3 z4 z5 hK => q23 z0 z1 z2 z3 z4 z5 hK) _ _ _ _ _ _ hK
      · replace hK := mm_in hc hK
        refine mD_iconst C (pc := 1572) (v := (0 : Int32)) dL_law_1572 (by decide) ?_
        replace hK := rZ_some hK; obtain ⟨hv1573, hK⟩ := hK
        cases hK
        exact mD_zret C (pc := 1573) rfl (mm_nrZ hv1573) dL_law_1573 rfl rfl
  · replace hK := mm_in hc hK
    refine mD_iconst C (pc := 1555) (v := (0 : Int32)) dL_law_1555 (by decide) ?_
    replace hK := rZ_some hK; obtain ⟨hv1556, hK⟩ := hK
    cases hK
    exact mD_zret C (pc := 1556) rfl (mm_nrZ hv1556) dL_law_1556 rfl rfl
def F_L_law_1577 (k23 : Option Nat → Option Nat → Option Nat → Option Nat → Int32 → MH → Option (Int32 × MH)) (l0 : Option Nat) (l1 : Option Nat) (l2 : Option Nat) (l3 : Option Nat) (l4 : Int32) (h : MH) : Option (Int32 × MH) := mm_b2 (cV h l1 11 (F_X11_enough l1 h)) fun v1578 h1578 => mm_b2 (cV h1578 l2 12 (F_X12_enough l2 h1578)) fun v1582 h1582 => if v1578 = v1582 then (F_L_law_2603 k23 l0 l1 l2 l3 l4 h1582) else (rZ (0 : Int32) h1582)
set_option maxRecDepth 20000 in
set_option maxHeartbeats 4000000 in
theorem w_L_law_1577 {d : Nat} {V : Nat → List (Nat × Value) → List Value → MH → Prop} {r : Int32} {hz : MH} {k23 : Option Nat → Option Nat → Option Nat → Option Nat → Int32 → MH → Option (Int32 × MH)} (hd : 141 ≤ d) (C : mm_D [] d yL_law cL_law 8 (some .boolean) (.inr (some (.int r))) hz V) (q23 : ∀ (x0 : Option Nat) (x1 : Option Nat) (x2 : Option Nat) (x3 : Option Nat) (x4 : Int32) (h : MH), k23 x0 x1 x2 x3 x4 h = some (r, hz) → V 23 [(0, va_rf x0), (1, va_rf x1), (2, va_rf x2), (3, va_rf x3), (4, .int x4)] [] h) (l0 : Option Nat) (l1 : Option Nat) (l2 : Option Nat) (l3 : Option Nat) (l4 : Int32) (h : MH) (hK : F_L_law_1577 k23 l0 l1 l2 l3 l4 h = some (r, hz)) : V 1577 [(0, va_rf l0), (1, va_rf l1), (2, va_rf l2), (3, va_rf l3), (4, .int l4)] [] h := by
  unfold F_L_law_1577 at hK
  refine mD_aload_n C (pc := 1577) 1 dL_law_1577 rfl ?_
  replace hK := mm_b2s hK; obtain ⟨v1578, h1578, e1578, hK⟩ := hK
  obtain ⟨o1578, e1578⟩ := cV_some e1578
  refine mD_callV C (pc := 1578) (d1 := 3) (As := []) (st := []) (vk := (some (.int v1578))) ((S_X11_enough (by omega)) e1578) tT_X11_enough o1578 (Or.inr ⟨_, rfl, rfl⟩) wd_1078 wd_1079 wd_1080 (by omega) (by decide) rfl (by simp [mm_crf, mm_cti, mm_ctl]) rfl dL_law_1578 ?_
  show V _ _ (.int v1578 :: _) _
  refine mD_aload_n C (pc := 1581) 2 dL_law_1581 rfl ?_
  replace hK := mm_b2s hK; obtain ⟨v1582, h1582, e1582, hK⟩ := hK
  obtain ⟨o1582, e1582⟩ := cV_some e1582
  refine mD_callV C (pc := 1582) (d1 := 4) (As := []) (st := [.int v1578]) (vk := (some (.int v1582))) ((S_X12_enough (by omega)) e1582) tT_X12_enough o1582 (Or.inr ⟨_, rfl, rfl⟩) wd_2562 wd_2563 wd_2564 (by omega) (by decide) rfl (by simp [mm_crf, mm_cti, mm_ctl]) rfl dL_law_1582 ?_
  show V _ _ (.int v1582 :: _) _
  refine mD_icmp_eq C (pc := 1585) (tgt := 2603) dL_law_1585 (by decide) (fun hc => ?_) (fun hc => ?_)
  · replace hK := mm_ip hc hK
    exact w_L_law_2603 hd C (fun z0 z1 z2 z3 z4 z5 hK => q23 z0 z1 z2 z3 z4 z5 hK) _ _ _ _ _ _ hK
  · replace hK := mm_in hc hK
    refine mD_iconst C (pc := 1588) (v := (0 : Int32)) dL_law_1588 (by decide) ?_
    replace hK := rZ_some hK; obtain ⟨hv1589, hK⟩ := hK
    cases hK
    exact mD_zret C (pc := 1589) rfl (mm_nrZ hv1589) dL_law_1589 rfl rfl
def F_L_law_1650 (k23 : Option Nat → Option Nat → Option Nat → Option Nat → Int32 → MH → Option (Int32 × MH)) (l0 : Option Nat) (l1 : Option Nat) (l2 : Option Nat) (l3 : Option Nat) (l4 : Int32) (h : MH) : Option (Int32 × MH) := F_L_law_2603 k23 l0 l1 l2 l3 l4 h
set_option maxRecDepth 20000 in
set_option maxHeartbeats 4000000 in
theorem w_L_law_1650 {d : Nat} {V : Nat → List (Nat × Value) → List Value → MH → Prop} {r : Int32} {hz : MH} {k23 : Option Nat → Option Nat → Option Nat → Option Nat → Int32 → MH → Option (Int32 × MH)} (hd : 141 ≤ d) (C : mm_D [] d yL_law cL_law 8 (some .boolean) (.inr (some (.int r))) hz V) (q23 : ∀ (x0 : Option Nat) (x1 : Option Nat) (x2 : Option Nat) (x3 : Option Nat) (x4 : Int32) (h : MH), k23 x0 x1 x2 x3 x4 h = some (r, hz) → V 23 [(0, va_rf x0), (1, va_rf x1), (2, va_rf x2), (3, va_rf x3), (4, .int x4)] [] h) (l0 : Option Nat) (l1 : Option Nat) (l2 : Option Nat) (l3 : Option Nat) (l4 : Int32) (h : MH) (hK : F_L_law_1650 k23 l0 l1 l2 l3 l4 h = some (r, hz)) : V 1650 [(0, va_rf l0), (1, va_rf l1), (2, va_rf l2), (3, va_rf l3), (4, .int l4)] [] h := by
  unfold F_L_law_1650 at hK
  refine mD_goto C (pc := 1650) (tgt := 2603) dL_law_1650 (by decide) ?_
  exact w_L_law_2603 hd C (fun z0 z1 z2 z3 z4 z5 hK => q23 z0 z1 z2 z3 z4 z5 hK) _ _ _ _ _ _ hK
def F_L_law_1644 (k23 : Option Nat → Option Nat → Option Nat → Option Nat → Int32 → MH → Option (Int32 × MH)) (l0 : Option Nat) (l1 : Option Nat) (l2 : Option Nat) (l3 : Option Nat) (l4 : Int32) (s0 : Int64) (s1 : Int64) (h : MH) : Option (Int32 × MH) := if (lg_cmp s1 s0) = 0 then (F_L_law_1650 k23 l0 l1 l2 l3 l4 h) else (rZ (0 : Int32) h)
set_option maxRecDepth 20000 in
set_option maxHeartbeats 4000000 in
theorem w_L_law_1644 {d : Nat} {V : Nat → List (Nat × Value) → List Value → MH → Prop} {r : Int32} {hz : MH} {k23 : Option Nat → Option Nat → Option Nat → Option Nat → Int32 → MH → Option (Int32 × MH)} (hd : 141 ≤ d) (C : mm_D [] d yL_law cL_law 8 (some .boolean) (.inr (some (.int r))) hz V) (q23 : ∀ (x0 : Option Nat) (x1 : Option Nat) (x2 : Option Nat) (x3 : Option Nat) (x4 : Int32) (h : MH), k23 x0 x1 x2 x3 x4 h = some (r, hz) → V 23 [(0, va_rf x0), (1, va_rf x1), (2, va_rf x2), (3, va_rf x3), (4, .int x4)] [] h) (l0 : Option Nat) (l1 : Option Nat) (l2 : Option Nat) (l3 : Option Nat) (l4 : Int32) (s0 : Int64) (s1 : Int64) (h : MH) (hK : F_L_law_1644 k23 l0 l1 l2 l3 l4 s0 s1 h = some (r, hz)) : V 1644 [(0, va_rf l0), (1, va_rf l1), (2, va_rf l2), (3, va_rf l3), (4, .int l4)] [.long s0, .long s1] h := by
  unfold F_L_law_1644 at hK
  refine mD_lcmp C (pc := 1644) dL_law_1644 ?_
  refine mD_if_eq C (pc := 1645) (tgt := 1650) dL_law_1645 (by decide) (fun hc => ?_) (fun hc => ?_)
  · replace hK := mm_ip hc hK
    exact w_L_law_1650 hd C (fun z0 z1 z2 z3 z4 z5 hK => q23 z0 z1 z2 z3 z4 z5 hK) _ _ _ _ _ _ hK
  · replace hK := mm_in hc hK
    refine mD_iconst C (pc := 1648) (v := (0 : Int32)) dL_law_1648 (by decide) ?_
    replace hK := rZ_some hK; obtain ⟨hv1649, hK⟩ := hK
    cases hK
    exact mD_zret C (pc := 1649) rfl (mm_nrZ hv1649) dL_law_1649 rfl rfl
def F_L_law_1590 (k23 : Option Nat → Option Nat → Option Nat → Option Nat → Int32 → MH → Option (Int32 × MH)) (l0 : Option Nat) (l1 : Option Nat) (l2 : Option Nat) (l3 : Option Nat) (l4 : Int32) (h : MH) : Option (Int32 × MH) := (aS h l0 (l4 + (1 : Int32))).bind fun v1596 => mm_b2 (F_L_atOnce l1 v1596 l3 h) fun v1598 h1598 => (aS h1598 l0 (l4 + (1 : Int32))).bind fun v1609 => mm_b2 (cV h1598 l2 12 (F_X12_atOnce l2 v1609 h1598)) fun v1610 h1610 => mm_b2 (cV h1610 l2 12 (F_X12_thrown l2 h1610)) fun v1616 h1616 => if v1616 = v1598 then (if v1598 = 0 then ((aL h1616 l3 (0 : Int32)).bind fun v1633 => if v1610 = 0 then (F_L_law_1644 k23 l0 l1 l2 l3 l4 (0 : Int64) v1633 h1616) else (F_L_law_1644 k23 l0 l1 l2 l3 l4 (1 : Int64) v1633 h1616)) else (F_L_law_1650 k23 l0 l1 l2 l3 l4 h1616)) else (rZ (0 : Int32) h1616)
set_option maxRecDepth 20000 in
set_option maxHeartbeats 4000000 in
theorem w_L_law_1590 {d : Nat} {V : Nat → List (Nat × Value) → List Value → MH → Prop} {r : Int32} {hz : MH} {k23 : Option Nat → Option Nat → Option Nat → Option Nat → Int32 → MH → Option (Int32 × MH)} (hd : 141 ≤ d) (C : mm_D [] d yL_law cL_law 8 (some .boolean) (.inr (some (.int r))) hz V) (q23 : ∀ (x0 : Option Nat) (x1 : Option Nat) (x2 : Option Nat) (x3 : Option Nat) (x4 : Int32) (h : MH), k23 x0 x1 x2 x3 x4 h = some (r, hz) → V 23 [(0, va_rf x0), (1, va_rf x1), (2, va_rf x2), (3, va_rf x3), (4, .int x4)] [] h) (l0 : Option Nat) (l1 : Option Nat) (l2 : Option Nat) (l3 : Option Nat) (l4 : Int32) (h : MH) (hK : F_L_law_1590 k23 l0 l1 l2 l3 l4 h = some (r, hz)) : V 1590 [(0, va_rf l0), (1, va_rf l1), (2, va_rf l2), (3, va_rf l3), (4, .int l4)] [] h := by
  unfold F_L_law_1590 at hK
  refine mD_aload_n C (pc := 1590) 1 dL_law_1590 rfl ?_
  refine mD_aload_n C (pc := 1591) 0 dL_law_1591 rfl ?_
  refine mD_iload C (pc := 1592) 4 dL_law_1592 rfl ?_
  refine mD_iconst C (pc := 1594) (v := (1 : Int32)) dL_law_1594 (by decide) ?_
  refine mD_iadd C (pc := 1595) dL_law_1595 ?_
  replace hK := mm_bd hK; obtain ⟨v1596, e1596, hK⟩ := hK
  refine mD_sald C (pc := 1596) dL_law_1596 e1596 ?_
  refine mD_aload_n C (pc := 1597) 3 dL_law_1597 rfl ?_
  replace hK := mm_b2s hK; obtain ⟨v1598, h1598, e1598, hK⟩ := hK
  refine mD_callSW C (pc := 1598) (d1 := 69) (As := [va_rf l1, .int v1596, va_rf l3]) (st := []) (vk := (some (.int v1598))) ((S_L_atOnce (by omega)) e1598) tT_L_atOnce wd_1748 wd_1749 (by omega) (by decide) rfl (by simp [mm_crf, mm_cti, mm_ctl]) rfl dL_law_1598 ?_
  show V _ _ (.int v1598 :: _) _
  refine mD_istore C (pc := 1601) (i := 5) (lv' := [(5, .int v1598), (0, va_rf l0), (1, va_rf l1), (2, va_rf l2), (3, va_rf l3), (4, .int l4)]) dL_law_1601 (by decide) rfl ?_
  refine mD_aload_n C (pc := 1603) 3 dL_law_1603 rfl ?_
  refine mD_aload_n C (pc := 1604) 1 dL_law_1604 rfl ?_
  refine mD_iload C (pc := 1605) 5 dL_law_1605 rfl ?_
  refine mD_iconst C (pc := 1607) (v := (1 : Int32)) dL_law_1607 (by decide) ?_
  refine mD_iadd C (pc := 1608) dL_law_1608 ?_
  replace hK := mm_bd hK; obtain ⟨v1609, e1609, hK⟩ := hK
  refine mD_sald C (pc := 1609) dL_law_1609 e1609 ?_
  replace hK := mm_b2s hK; obtain ⟨v1610, h1610, e1610, hK⟩ := hK
  obtain ⟨o1610, e1610⟩ := cV_some e1610
  refine mD_callV C (pc := 1610) (d1 := 68) (As := [.int v1609]) (st := []) (vk := (some (.int v1610))) ((S_X12_atOnce (by omega)) e1610) tT_X12_atOnce o1610 (Or.inr ⟨_, rfl, rfl⟩) wd_2574 wd_2575 wd_2576 (by omega) (by decide) rfl (by simp [mm_crf, mm_cti, mm_ctl]) rfl dL_law_1610 ?_
  show V _ _ (.int v1610 :: _) _
  refine mD_istore C (pc := 1613) (i := 6) (lv' := [(6, .int v1610), (5, .int v1598), (0, va_rf l0), (1, va_rf l1), (2, va_rf l2), (3, va_rf l3), (4, .int l4)]) dL_law_1613 (by decide) rfl ?_
  refine mD_aload_n C (pc := 1615) 4 dL_law_1615 rfl ?_
  replace hK := mm_b2s hK; obtain ⟨v1616, h1616, e1616, hK⟩ := hK
  obtain ⟨o1616, e1616⟩ := cV_some e1616
  refine mD_callV C (pc := 1616) (d1 := 1) (As := []) (st := []) (vk := (some (.int v1616))) ((S_X12_thrown (by omega)) e1616) tT_X12_thrown o1616 (Or.inr ⟨_, rfl, rfl⟩) wd_2145 wd_2146 wd_2147 (by omega) (by decide) rfl (by simp [mm_crf, mm_cti, mm_ctl]) rfl dL_law_1616 ?_
  show V _ _ (.int v1616 :: _) _
  refine mD_iload C (pc := 1619) 1 dL_law_1619 rfl ?_
  refine mD_icmp_eq C (pc := 1621) (tgt := 1626) dL_law_1621 (by decide) (fun hc => ?_) (fun hc => ?_)
  · replace hK := mm_ip hc hK
    refine mD_iload C (pc := 1626) 1 dL_law_1626 rfl ?_
    refine mD_if_ne C (pc := 1628) (tgt := 1650) dL_law_1628 (by decide) (fun hc => ?_) (fun hc => ?_)
    · replace hK := mm_in hc hK
      refine mD_sub C [2, 3, 4, 5, 6] rfl ?_
      exact w_L_law_1650 hd C (fun z0 z1 z2 z3 z4 z5 hK => q23 z0 z1 z2 z3 z4 z5 hK) _ _ _ _ _ _ hK
    · replace hK := mm_ip hc hK
      refine mD_aload_n C (pc := 1631) 5 dL_law_1631 rfl ?_
      refine mD_iconst C (pc := 1632) (v := (0 : Int32)) dL_law_1632 (by decide) ?_
      replace hK := mm_bd hK; obtain ⟨v1633, e1633, hK⟩ := hK
      refine mD_lald C (pc := 1633) dL_law_1633 e1633 ?_
      refine mD_iload C (pc := 1634) 0 dL_law_1634 rfl ?_
      refine mD_if_eq C (pc := 1636) (tgt := 1643) dL_law_1636 (by decide) (fun hc => ?_) (fun hc => ?_)
      · replace hK := mm_ip hc hK
        refine mD_lconst C (pc := 1643) (v := (0 : Int64)) dL_law_1643 (by decide) ?_
        refine mD_sub C [2, 3, 4, 5, 6] rfl ?_
        exact w_L_law_1644 hd C (fun z0 z1 z2 z3 z4 z5 hK => q23 z0 z1 z2 z3 z4 z5 hK) _ _ _ _ _ _ _ _ hK
      · replace hK := mm_in hc hK
        refine mD_lconst C (pc := 1639) (v := (1 : Int64)) dL_law_1639 (by decide) ?_
        refine mD_goto C (pc := 1640) (tgt := 1644) dL_law_1640 (by decide) ?_
        refine mD_sub C [2, 3, 4, 5, 6] rfl ?_
        exact w_L_law_1644 hd C (fun z0 z1 z2 z3 z4 z5 hK => q23 z0 z1 z2 z3 z4 z5 hK) _ _ _ _ _ _ _ _ hK
  · replace hK := mm_in hc hK
    refine mD_iconst C (pc := 1624) (v := (0 : Int32)) dL_law_1624 (by decide) ?_
    replace hK := rZ_some hK; obtain ⟨hv1625, hK⟩ := hK
    cases hK
    exact mD_zret C (pc := 1625) rfl (mm_nrZ hv1625) dL_law_1625 rfl rfl
def F_L_law_1718 (k23 : Option Nat → Option Nat → Option Nat → Option Nat → Int32 → MH → Option (Int32 × MH)) (l0 : Option Nat) (l1 : Option Nat) (l2 : Option Nat) (l3 : Option Nat) (l4 : Int32) (h : MH) : Option (Int32 × MH) := F_L_law_2603 k23 l0 l1 l2 l3 l4 h
set_option maxRecDepth 20000 in
set_option maxHeartbeats 4000000 in
theorem w_L_law_1718 {d : Nat} {V : Nat → List (Nat × Value) → List Value → MH → Prop} {r : Int32} {hz : MH} {k23 : Option Nat → Option Nat → Option Nat → Option Nat → Int32 → MH → Option (Int32 × MH)} (hd : 141 ≤ d) (C : mm_D [] d yL_law cL_law 8 (some .boolean) (.inr (some (.int r))) hz V) (q23 : ∀ (x0 : Option Nat) (x1 : Option Nat) (x2 : Option Nat) (x3 : Option Nat) (x4 : Int32) (h : MH), k23 x0 x1 x2 x3 x4 h = some (r, hz) → V 23 [(0, va_rf x0), (1, va_rf x1), (2, va_rf x2), (3, va_rf x3), (4, .int x4)] [] h) (l0 : Option Nat) (l1 : Option Nat) (l2 : Option Nat) (l3 : Option Nat) (l4 : Int32) (h : MH) (hK : F_L_law_1718 k23 l0 l1 l2 l3 l4 h = some (r, hz)) : V 1718 [(0, va_rf l0), (1, va_rf l1), (2, va_rf l2), (3, va_rf l3), (4, .int l4)] [] h := by
  unfold F_L_law_1718 at hK
  refine mD_goto C (pc := 1718) (tgt := 2603) dL_law_1718 (by decide) ?_
  exact w_L_law_2603 hd C (fun z0 z1 z2 z3 z4 z5 hK => q23 z0 z1 z2 z3 z4 z5 hK) _ _ _ _ _ _ hK
def F_L_law_1653 (k23 : Option Nat → Option Nat → Option Nat → Option Nat → Int32 → MH → Option (Int32 × MH)) (l0 : Option Nat) (l1 : Option Nat) (l2 : Option Nat) (l3 : Option Nat) (l4 : Int32) (h : MH) : Option (Int32 × MH) := (aS h l0 (l4 + (1 : Int32))).bind fun v1659 => (aS h l0 (l4 + (2 : Int32))).bind fun v1665 => mm_b2 (F_L_crossed l1 v1659 v1665 l3 h) fun v1667 h1667 => (aS h1667 l0 (l4 + (1 : Int32))).bind fun v1678 => (aS h1667 l0 (l4 + (2 : Int32))).bind fun v1684 => mm_b2 (cV h1667 l2 12 (F_X12_crossed l2 v1678 v1684 h1667)) fun v1685 h1685 => mm_b2 (cV h1685 l2 12 (F_X12_thrown l2 h1685)) fun v1691 h1691 => if v1691 = v1667 then (if v1667 = 0 then ((aL h1691 l3 (0 : Int32)).bind fun v1708 => if (lg_cmp v1708 (v1685.toInt64)) = 0 then (F_L_law_1718 k23 l0 l1 l2 l3 l4 h1691) else (rZ (0 : Int32) h1691)) else (F_L_law_1718 k23 l0 l1 l2 l3 l4 h1691)) else (rZ (0 : Int32) h1691)
set_option maxRecDepth 20000 in
set_option maxHeartbeats 4000000 in
theorem w_L_law_1653 {d : Nat} {V : Nat → List (Nat × Value) → List Value → MH → Prop} {r : Int32} {hz : MH} {k23 : Option Nat → Option Nat → Option Nat → Option Nat → Int32 → MH → Option (Int32 × MH)} (hd : 141 ≤ d) (C : mm_D [] d yL_law cL_law 8 (some .boolean) (.inr (some (.int r))) hz V) (q23 : ∀ (x0 : Option Nat) (x1 : Option Nat) (x2 : Option Nat) (x3 : Option Nat) (x4 : Int32) (h : MH), k23 x0 x1 x2 x3 x4 h = some (r, hz) → V 23 [(0, va_rf x0), (1, va_rf x1), (2, va_rf x2), (3, va_rf x3), (4, .int x4)] [] h) (l0 : Option Nat) (l1 : Option Nat) (l2 : Option Nat) (l3 : Option Nat) (l4 : Int32) (h : MH) (hK : F_L_law_1653 k23 l0 l1 l2 l3 l4 h = some (r, hz)) : V 1653 [(0, va_rf l0), (1, va_rf l1), (2, va_rf l2), (3, va_rf l3), (4, .int l4)] [] h := by
  unfold F_L_law_1653 at hK
  refine mD_aload_n C (pc := 1653) 1 dL_law_1653 rfl ?_
  refine mD_aload_n C (pc := 1654) 0 dL_law_1654 rfl ?_
  refine mD_iload C (pc := 1655) 4 dL_law_1655 rfl ?_
  refine mD_iconst C (pc := 1657) (v := (1 : Int32)) dL_law_1657 (by decide) ?_
  refine mD_iadd C (pc := 1658) dL_law_1658 ?_
  replace hK := mm_bd hK; obtain ⟨v1659, e1659, hK⟩ := hK
  refine mD_sald C (pc := 1659) dL_law_1659 e1659 ?_
  refine mD_aload_n C (pc := 1660) 0 dL_law_1660 rfl ?_
  refine mD_iload C (pc := 1661) 4 dL_law_1661 rfl ?_
  refine mD_iconst C (pc := 1663) (v := (2 : Int32)) dL_law_1663 (by decide) ?_
  refine mD_iadd C (pc := 1664) dL_law_1664 ?_
  replace hK := mm_bd hK; obtain ⟨v1665, e1665, hK⟩ := hK
  refine mD_sald C (pc := 1665) dL_law_1665 e1665 ?_
  refine mD_aload_n C (pc := 1666) 3 dL_law_1666 rfl ?_
  replace hK := mm_b2s hK; obtain ⟨v1667, h1667, e1667, hK⟩ := hK
  refine mD_callSW C (pc := 1667) (d1 := 9) (As := [va_rf l1, .int v1659, .int v1665, va_rf l3]) (st := []) (vk := (some (.int v1667))) ((S_L_crossed (by omega)) e1667) tT_L_crossed wd_1770 wd_1771 (by omega) (by decide) rfl (by simp [mm_crf, mm_cti, mm_ctl]) rfl dL_law_1667 ?_
  show V _ _ (.int v1667 :: _) _
  refine mD_istore C (pc := 1670) (i := 5) (lv' := [(5, .int v1667), (0, va_rf l0), (1, va_rf l1), (2, va_rf l2), (3, va_rf l3), (4, .int l4)]) dL_law_1670 (by decide) rfl ?_
  refine mD_aload_n C (pc := 1672) 3 dL_law_1672 rfl ?_
  refine mD_aload_n C (pc := 1673) 1 dL_law_1673 rfl ?_
  refine mD_iload C (pc := 1674) 5 dL_law_1674 rfl ?_
  refine mD_iconst C (pc := 1676) (v := (1 : Int32)) dL_law_1676 (by decide) ?_
  refine mD_iadd C (pc := 1677) dL_law_1677 ?_
  replace hK := mm_bd hK; obtain ⟨v1678, e1678, hK⟩ := hK
  refine mD_sald C (pc := 1678) dL_law_1678 e1678 ?_
  refine mD_aload_n C (pc := 1679) 1 dL_law_1679 rfl ?_
  refine mD_iload C (pc := 1680) 5 dL_law_1680 rfl ?_
  refine mD_iconst C (pc := 1682) (v := (2 : Int32)) dL_law_1682 (by decide) ?_
  refine mD_iadd C (pc := 1683) dL_law_1683 ?_
  replace hK := mm_bd hK; obtain ⟨v1684, e1684, hK⟩ := hK
  refine mD_sald C (pc := 1684) dL_law_1684 e1684 ?_
  replace hK := mm_b2s hK; obtain ⟨v1685, h1685, e1685, hK⟩ := hK
  obtain ⟨o1685, e1685⟩ := cV_some e1685
  refine mD_callV C (pc := 1685) (d1 := 74) (As := [.int v1678, .int v1684]) (st := []) (vk := (some (.int v1685))) ((S_X12_crossed (by omega)) e1685) tT_X12_crossed o1685 (Or.inr ⟨_, rfl, rfl⟩) wd_2590 wd_2591 wd_2592 (by omega) (by decide) rfl (by simp [mm_crf, mm_cti, mm_ctl]) rfl dL_law_1685 ?_
  show V _ _ (.int v1685 :: _) _
  refine mD_istore C (pc := 1688) (i := 6) (lv' := [(6, .int v1685), (5, .int v1667), (0, va_rf l0), (1, va_rf l1), (2, va_rf l2), (3, va_rf l3), (4, .int l4)]) dL_law_1688 (by decide) rfl ?_
  refine mD_aload_n C (pc := 1690) 4 dL_law_1690 rfl ?_
  replace hK := mm_b2s hK; obtain ⟨v1691, h1691, e1691, hK⟩ := hK
  obtain ⟨o1691, e1691⟩ := cV_some e1691
  refine mD_callV C (pc := 1691) (d1 := 1) (As := []) (st := []) (vk := (some (.int v1691))) ((S_X12_thrown (by omega)) e1691) tT_X12_thrown o1691 (Or.inr ⟨_, rfl, rfl⟩) wd_2145 wd_2146 wd_2147 (by omega) (by decide) rfl (by simp [mm_crf, mm_cti, mm_ctl]) rfl dL_law_1691 ?_
  show V _ _ (.int v1691 :: _) _
  refine mD_iload C (pc := 1694) 1 dL_law_1694 rfl ?_
  refine mD_icmp_eq C (pc := 1696) (tgt := 1701) dL_law_1696 (by decide) (fun hc => ?_) (fun hc => ?_)
  · replace hK := mm_ip hc hK
    refine mD_iload C (pc := 1701) 1 dL_law_1701 rfl ?_
    refine mD_if_ne C (pc := 1703) (tgt := 1718) dL_law_1703 (by decide) (fun hc => ?_) (fun hc => ?_)
    · replace hK := mm_in hc hK
      refine mD_sub C [2, 3, 4, 5, 6] rfl ?_
      exact w_L_law_1718 hd C (fun z0 z1 z2 z3 z4 z5 hK => q23 z0 z1 z2 z3 z4 z5 hK) _ _ _ _ _ _ hK
    · replace hK := mm_ip hc hK
      refine mD_aload_n C (pc := 1706) 5 dL_law_1706 rfl ?_
      refine mD_iconst C (pc := 1707) (v := (0 : Int32)) dL_law_1707 (by decide) ?_
      replace hK := mm_bd hK; obtain ⟨v1708, e1708, hK⟩ := hK
      refine mD_lald C (pc := 1708) dL_law_1708 e1708 ?_
      refine mD_iload C (pc := 1709) 0 dL_law_1709 rfl ?_
      refine mD_i2l C (pc := 1711) dL_law_1711 ?_
      refine mD_lcmp C (pc := 1712) dL_law_1712 ?_
      refine mD_if_eq C (pc := 1713) (tgt := 1718) dL_law_1713 (by decide) (fun hc => ?_) (fun hc => ?_)
      · replace hK := mm_ip hc hK
        refine mD_sub C [2, 3, 4, 5, 6] rfl ?_
        exact w_L_law_1718 hd C (fun z0 z1 z2 z3 z4 z5 hK => q23 z0 z1 z2 z3 z4 z5 hK) _ _ _ _ _ _ hK
      · replace hK := mm_in hc hK
        refine mD_iconst C (pc := 1716) (v := (0 : Int32)) dL_law_1716 (by decide) ?_
        replace hK := rZ_some hK; obtain ⟨hv1717, hK⟩ := hK
        cases hK
        exact mD_zret C (pc := 1717) rfl (mm_nrZ hv1717) dL_law_1717 rfl rfl
  · replace hK := mm_in hc hK
    refine mD_iconst C (pc := 1699) (v := (0 : Int32)) dL_law_1699 (by decide) ?_
    replace hK := rZ_some hK; obtain ⟨hv1700, hK⟩ := hK
    cases hK
    exact mD_zret C (pc := 1700) rfl (mm_nrZ hv1700) dL_law_1700 rfl rfl
def F_L_law_1774 (k23 : Option Nat → Option Nat → Option Nat → Option Nat → Int32 → MH → Option (Int32 × MH)) (l0 : Option Nat) (l1 : Option Nat) (l2 : Option Nat) (l3 : Option Nat) (l4 : Int32) (h : MH) : Option (Int32 × MH) := F_L_law_2603 k23 l0 l1 l2 l3 l4 h
set_option maxRecDepth 20000 in
set_option maxHeartbeats 4000000 in
theorem w_L_law_1774 {d : Nat} {V : Nat → List (Nat × Value) → List Value → MH → Prop} {r : Int32} {hz : MH} {k23 : Option Nat → Option Nat → Option Nat → Option Nat → Int32 → MH → Option (Int32 × MH)} (hd : 141 ≤ d) (C : mm_D [] d yL_law cL_law 8 (some .boolean) (.inr (some (.int r))) hz V) (q23 : ∀ (x0 : Option Nat) (x1 : Option Nat) (x2 : Option Nat) (x3 : Option Nat) (x4 : Int32) (h : MH), k23 x0 x1 x2 x3 x4 h = some (r, hz) → V 23 [(0, va_rf x0), (1, va_rf x1), (2, va_rf x2), (3, va_rf x3), (4, .int x4)] [] h) (l0 : Option Nat) (l1 : Option Nat) (l2 : Option Nat) (l3 : Option Nat) (l4 : Int32) (h : MH) (hK : F_L_law_1774 k23 l0 l1 l2 l3 l4 h = some (r, hz)) : V 1774 [(0, va_rf l0), (1, va_rf l1), (2, va_rf l2), (3, va_rf l3), (4, .int l4)] [] h := by
  unfold F_L_law_1774 at hK
  refine mD_goto C (pc := 1774) (tgt := 2603) dL_law_1774 (by decide) ?_
  exact w_L_law_2603 hd C (fun z0 z1 z2 z3 z4 z5 hK => q23 z0 z1 z2 z3 z4 z5 hK) _ _ _ _ _ _ hK
def F_L_law_1721 (k23 : Option Nat → Option Nat → Option Nat → Option Nat → Int32 → MH → Option (Int32 × MH)) (l0 : Option Nat) (l1 : Option Nat) (l2 : Option Nat) (l3 : Option Nat) (l4 : Int32) (h : MH) : Option (Int32 × MH) := (aS h l0 (l4 + (1 : Int32))).bind fun v1727 => mm_b2 (F_L_crossings l1 v1727 l3 h) fun v1729 h1729 => (aS h1729 l0 (l4 + (1 : Int32))).bind fun v1740 => mm_b2 (cV h1729 l2 12 (F_X12_crossings l2 v1740 h1729)) fun v1741 h1741 => mm_b2 (cV h1741 l2 12 (F_X12_thrown l2 h1741)) fun v1747 h1747 => if v1747 = v1729 then (if v1729 = 0 then ((aL h1747 l3 (0 : Int32)).bind fun v1764 => if (lg_cmp v1764 (v1741.toInt64)) = 0 then (F_L_law_1774 k23 l0 l1 l2 l3 l4 h1747) else (rZ (0 : Int32) h1747)) else (F_L_law_1774 k23 l0 l1 l2 l3 l4 h1747)) else (rZ (0 : Int32) h1747)
set_option maxRecDepth 20000 in
set_option maxHeartbeats 4000000 in
theorem w_L_law_1721 {d : Nat} {V : Nat → List (Nat × Value) → List Value → MH → Prop} {r : Int32} {hz : MH} {k23 : Option Nat → Option Nat → Option Nat → Option Nat → Int32 → MH → Option (Int32 × MH)} (hd : 141 ≤ d) (C : mm_D [] d yL_law cL_law 8 (some .boolean) (.inr (some (.int r))) hz V) (q23 : ∀ (x0 : Option Nat) (x1 : Option Nat) (x2 : Option Nat) (x3 : Option Nat) (x4 : Int32) (h : MH), k23 x0 x1 x2 x3 x4 h = some (r, hz) → V 23 [(0, va_rf x0), (1, va_rf x1), (2, va_rf x2), (3, va_rf x3), (4, .int x4)] [] h) (l0 : Option Nat) (l1 : Option Nat) (l2 : Option Nat) (l3 : Option Nat) (l4 : Int32) (h : MH) (hK : F_L_law_1721 k23 l0 l1 l2 l3 l4 h = some (r, hz)) : V 1721 [(0, va_rf l0), (1, va_rf l1), (2, va_rf l2), (3, va_rf l3), (4, .int l4)] [] h := by
  unfold F_L_law_1721 at hK
  refine mD_aload_n C (pc := 1721) 1 dL_law_1721 rfl ?_
  refine mD_aload_n C (pc := 1722) 0 dL_law_1722 rfl ?_
  refine mD_iload C (pc := 1723) 4 dL_law_1723 rfl ?_
  refine mD_iconst C (pc := 1725) (v := (1 : Int32)) dL_law_1725 (by decide) ?_
  refine mD_iadd C (pc := 1726) dL_law_1726 ?_
  replace hK := mm_bd hK; obtain ⟨v1727, e1727, hK⟩ := hK
  refine mD_sald C (pc := 1727) dL_law_1727 e1727 ?_
  refine mD_aload_n C (pc := 1728) 3 dL_law_1728 rfl ?_
  replace hK := mm_b2s hK; obtain ⟨v1729, h1729, e1729, hK⟩ := hK
  refine mD_callSW C (pc := 1729) (d1 := 9) (As := [va_rf l1, .int v1727, va_rf l3]) (st := []) (vk := (some (.int v1729))) ((S_L_crossings (by omega)) e1729) tT_L_crossings wd_1817 wd_1818 (by omega) (by decide) rfl (by simp [mm_crf, mm_cti, mm_ctl]) rfl dL_law_1729 ?_
  show V _ _ (.int v1729 :: _) _
  refine mD_istore C (pc := 1732) (i := 5) (lv' := [(5, .int v1729), (0, va_rf l0), (1, va_rf l1), (2, va_rf l2), (3, va_rf l3), (4, .int l4)]) dL_law_1732 (by decide) rfl ?_
  refine mD_aload_n C (pc := 1734) 3 dL_law_1734 rfl ?_
  refine mD_aload_n C (pc := 1735) 1 dL_law_1735 rfl ?_
  refine mD_iload C (pc := 1736) 5 dL_law_1736 rfl ?_
  refine mD_iconst C (pc := 1738) (v := (1 : Int32)) dL_law_1738 (by decide) ?_
  refine mD_iadd C (pc := 1739) dL_law_1739 ?_
  replace hK := mm_bd hK; obtain ⟨v1740, e1740, hK⟩ := hK
  refine mD_sald C (pc := 1740) dL_law_1740 e1740 ?_
  replace hK := mm_b2s hK; obtain ⟨v1741, h1741, e1741, hK⟩ := hK
  obtain ⟨o1741, e1741⟩ := cV_some e1741
  refine mD_callV C (pc := 1741) (d1 := 74) (As := [.int v1740]) (st := []) (vk := (some (.int v1741))) ((S_X12_crossings (by omega)) e1741) tT_X12_crossings o1741 (Or.inr ⟨_, rfl, rfl⟩) wd_2602 wd_2603 wd_2604 (by omega) (by decide) rfl (by simp [mm_crf, mm_cti, mm_ctl]) rfl dL_law_1741 ?_
  show V _ _ (.int v1741 :: _) _
  refine mD_istore C (pc := 1744) (i := 6) (lv' := [(6, .int v1741), (5, .int v1729), (0, va_rf l0), (1, va_rf l1), (2, va_rf l2), (3, va_rf l3), (4, .int l4)]) dL_law_1744 (by decide) rfl ?_
  refine mD_aload_n C (pc := 1746) 4 dL_law_1746 rfl ?_
  replace hK := mm_b2s hK; obtain ⟨v1747, h1747, e1747, hK⟩ := hK
  obtain ⟨o1747, e1747⟩ := cV_some e1747
  refine mD_callV C (pc := 1747) (d1 := 1) (As := []) (st := []) (vk := (some (.int v1747))) ((S_X12_thrown (by omega)) e1747) tT_X12_thrown o1747 (Or.inr ⟨_, rfl, rfl⟩) wd_2145 wd_2146 wd_2147 (by omega) (by decide) rfl (by simp [mm_crf, mm_cti, mm_ctl]) rfl dL_law_1747 ?_
  show V _ _ (.int v1747 :: _) _
  refine mD_iload C (pc := 1750) 1 dL_law_1750 rfl ?_
  refine mD_icmp_eq C (pc := 1752) (tgt := 1757) dL_law_1752 (by decide) (fun hc => ?_) (fun hc => ?_)
  · replace hK := mm_ip hc hK
    refine mD_iload C (pc := 1757) 1 dL_law_1757 rfl ?_
    refine mD_if_ne C (pc := 1759) (tgt := 1774) dL_law_1759 (by decide) (fun hc => ?_) (fun hc => ?_)
    · replace hK := mm_in hc hK
      refine mD_sub C [2, 3, 4, 5, 6] rfl ?_
      exact w_L_law_1774 hd C (fun z0 z1 z2 z3 z4 z5 hK => q23 z0 z1 z2 z3 z4 z5 hK) _ _ _ _ _ _ hK
    · replace hK := mm_ip hc hK
      refine mD_aload_n C (pc := 1762) 5 dL_law_1762 rfl ?_
      refine mD_iconst C (pc := 1763) (v := (0 : Int32)) dL_law_1763 (by decide) ?_
      replace hK := mm_bd hK; obtain ⟨v1764, e1764, hK⟩ := hK
      refine mD_lald C (pc := 1764) dL_law_1764 e1764 ?_
      refine mD_iload C (pc := 1765) 0 dL_law_1765 rfl ?_
      refine mD_i2l C (pc := 1767) dL_law_1767 ?_
      refine mD_lcmp C (pc := 1768) dL_law_1768 ?_
      refine mD_if_eq C (pc := 1769) (tgt := 1774) dL_law_1769 (by decide) (fun hc => ?_) (fun hc => ?_)
      · replace hK := mm_ip hc hK
        refine mD_sub C [2, 3, 4, 5, 6] rfl ?_
        exact w_L_law_1774 hd C (fun z0 z1 z2 z3 z4 z5 hK => q23 z0 z1 z2 z3 z4 z5 hK) _ _ _ _ _ _ hK
      · replace hK := mm_in hc hK
        refine mD_iconst C (pc := 1772) (v := (0 : Int32)) dL_law_1772 (by decide) ?_
        replace hK := rZ_some hK; obtain ⟨hv1773, hK⟩ := hK
        cases hK
        exact mD_zret C (pc := 1773) rfl (mm_nrZ hv1773) dL_law_1773 rfl rfl
  · replace hK := mm_in hc hK
    refine mD_iconst C (pc := 1755) (v := (0 : Int32)) dL_law_1755 (by decide) ?_
    replace hK := rZ_some hK; obtain ⟨hv1756, hK⟩ := hK
    cases hK
    exact mD_zret C (pc := 1756) rfl (mm_nrZ hv1756) dL_law_1756 rfl rfl
def F_L_law_1777 (k23 : Option Nat → Option Nat → Option Nat → Option Nat → Int32 → MH → Option (Int32 × MH)) (l0 : Option Nat) (l1 : Option Nat) (l2 : Option Nat) (l3 : Option Nat) (l4 : Int32) (h : MH) : Option (Int32 × MH) := mm_b2 (cV h l1 11 (F_X11_stable l1 h)) fun v1778 h1778 => mm_b2 (cV h1778 l2 12 (F_X12_stable l2 h1778)) fun v1782 h1782 => if v1778 = v1782 then (F_L_law_2603 k23 l0 l1 l2 l3 l4 h1782) else (rZ (0 : Int32) h1782)
set_option maxRecDepth 20000 in
set_option maxHeartbeats 4000000 in
theorem w_L_law_1777 {d : Nat} {V : Nat → List (Nat × Value) → List Value → MH → Prop} {r : Int32} {hz : MH} {k23 : Option Nat → Option Nat → Option Nat → Option Nat → Int32 → MH → Option (Int32 × MH)} (hd : 141 ≤ d) (C : mm_D [] d yL_law cL_law 8 (some .boolean) (.inr (some (.int r))) hz V) (q23 : ∀ (x0 : Option Nat) (x1 : Option Nat) (x2 : Option Nat) (x3 : Option Nat) (x4 : Int32) (h : MH), k23 x0 x1 x2 x3 x4 h = some (r, hz) → V 23 [(0, va_rf x0), (1, va_rf x1), (2, va_rf x2), (3, va_rf x3), (4, .int x4)] [] h) (l0 : Option Nat) (l1 : Option Nat) (l2 : Option Nat) (l3 : Option Nat) (l4 : Int32) (h : MH) (hK : F_L_law_1777 k23 l0 l1 l2 l3 l4 h = some (r, hz)) : V 1777 [(0, va_rf l0), (1, va_rf l1), (2, va_rf l2), (3, va_rf l3), (4, .int l4)] [] h := by
  unfold F_L_law_1777 at hK
  refine mD_aload_n C (pc := 1777) 1 dL_law_1777 rfl ?_
  replace hK := mm_b2s hK; obtain ⟨v1778, h1778, e1778, hK⟩ := hK
  obtain ⟨o1778, e1778⟩ := cV_some e1778
  refine mD_callV C (pc := 1778) (d1 := 71) (As := []) (st := []) (vk := (some (.int v1778))) ((S_X11_stable (by omega)) e1778) tT_X11_stable o1778 (Or.inr ⟨_, rfl, rfl⟩) wd_1093 wd_1094 wd_1095 (by omega) (by decide) rfl (by simp [mm_crf, mm_cti, mm_ctl]) rfl dL_law_1778 ?_
  show V _ _ (.int v1778 :: _) _
  refine mD_aload_n C (pc := 1781) 2 dL_law_1781 rfl ?_
  replace hK := mm_b2s hK; obtain ⟨v1782, h1782, e1782, hK⟩ := hK
  obtain ⟨o1782, e1782⟩ := cV_some e1782
  refine mD_callV C (pc := 1782) (d1 := 71) (As := []) (st := [.int v1778]) (vk := (some (.int v1782))) ((S_X12_stable (by omega)) e1782) tT_X12_stable o1782 (Or.inr ⟨_, rfl, rfl⟩) wd_2606 wd_2607 wd_2608 (by omega) (by decide) rfl (by simp [mm_crf, mm_cti, mm_ctl]) rfl dL_law_1782 ?_
  show V _ _ (.int v1782 :: _) _
  refine mD_icmp_eq C (pc := 1785) (tgt := 2603) dL_law_1785 (by decide) (fun hc => ?_) (fun hc => ?_)
  · replace hK := mm_ip hc hK
    exact w_L_law_2603 hd C (fun z0 z1 z2 z3 z4 z5 hK => q23 z0 z1 z2 z3 z4 z5 hK) _ _ _ _ _ _ hK
  · replace hK := mm_in hc hK
    refine mD_iconst C (pc := 1788) (v := (0 : Int32)) dL_law_1788 (by decide) ?_
    replace hK := rZ_some hK; obtain ⟨hv1789, hK⟩ := hK
    cases hK
    exact mD_zret C (pc := 1789) rfl (mm_nrZ hv1789) dL_law_1789 rfl rfl
def F_L_law_1843 (k23 : Option Nat → Option Nat → Option Nat → Option Nat → Int32 → MH → Option (Int32 × MH)) (l0 : Option Nat) (l1 : Option Nat) (l2 : Option Nat) (l3 : Option Nat) (l4 : Int32) (h : MH) : Option (Int32 × MH) := F_L_law_2603 k23 l0 l1 l2 l3 l4 h
set_option maxRecDepth 20000 in
set_option maxHeartbeats 4000000 in
theorem w_L_law_1843 {d : Nat} {V : Nat → List (Nat × Value) → List Value → MH → Prop} {r : Int32} {hz : MH} {k23 : Option Nat → Option Nat → Option Nat → Option Nat → Int32 → MH → Option (Int32 × MH)} (hd : 141 ≤ d) (C : mm_D [] d yL_law cL_law 8 (some .boolean) (.inr (some (.int r))) hz V) (q23 : ∀ (x0 : Option Nat) (x1 : Option Nat) (x2 : Option Nat) (x3 : Option Nat) (x4 : Int32) (h : MH), k23 x0 x1 x2 x3 x4 h = some (r, hz) → V 23 [(0, va_rf x0), (1, va_rf x1), (2, va_rf x2), (3, va_rf x3), (4, .int x4)] [] h) (l0 : Option Nat) (l1 : Option Nat) (l2 : Option Nat) (l3 : Option Nat) (l4 : Int32) (h : MH) (hK : F_L_law_1843 k23 l0 l1 l2 l3 l4 h = some (r, hz)) : V 1843 [(0, va_rf l0), (1, va_rf l1), (2, va_rf l2), (3, va_rf l3), (4, .int l4)] [] h := by
  unfold F_L_law_1843 at hK
  refine mD_goto C (pc := 1843) (tgt := 2603) dL_law_1843 (by decide) ?_
  exact w_L_law_2603 hd C (fun z0 z1 z2 z3 z4 z5 hK => q23 z0 z1 z2 z3 z4 z5 hK) _ _ _ _ _ _ hK
def F_L_law_1790 (k23 : Option Nat → Option Nat → Option Nat → Option Nat → Int32 → MH → Option (Int32 × MH)) (l0 : Option Nat) (l1 : Option Nat) (l2 : Option Nat) (l3 : Option Nat) (l4 : Int32) (h : MH) : Option (Int32 × MH) := (aS h l0 (l4 + (1 : Int32))).bind fun v1796 => mm_b2 (F_L_partner l1 v1796 l3 h) fun v1798 h1798 => (aS h1798 l0 (l4 + (1 : Int32))).bind fun v1809 => mm_b2 (cV h1798 l2 12 (F_X12_partner l2 v1809 h1798)) fun v1810 h1810 => mm_b2 (cV h1810 l2 12 (F_X12_thrown l2 h1810)) fun v1816 h1816 => if v1816 = v1798 then (if v1798 = 0 then ((aL h1816 l3 (0 : Int32)).bind fun v1833 => if (lg_cmp v1833 (v1810.toInt64)) = 0 then (F_L_law_1843 k23 l0 l1 l2 l3 l4 h1816) else (rZ (0 : Int32) h1816)) else (F_L_law_1843 k23 l0 l1 l2 l3 l4 h1816)) else (rZ (0 : Int32) h1816)
set_option maxRecDepth 20000 in
set_option maxHeartbeats 4000000 in
theorem w_L_law_1790 {d : Nat} {V : Nat → List (Nat × Value) → List Value → MH → Prop} {r : Int32} {hz : MH} {k23 : Option Nat → Option Nat → Option Nat → Option Nat → Int32 → MH → Option (Int32 × MH)} (hd : 141 ≤ d) (C : mm_D [] d yL_law cL_law 8 (some .boolean) (.inr (some (.int r))) hz V) (q23 : ∀ (x0 : Option Nat) (x1 : Option Nat) (x2 : Option Nat) (x3 : Option Nat) (x4 : Int32) (h : MH), k23 x0 x1 x2 x3 x4 h = some (r, hz) → V 23 [(0, va_rf x0), (1, va_rf x1), (2, va_rf x2), (3, va_rf x3), (4, .int x4)] [] h) (l0 : Option Nat) (l1 : Option Nat) (l2 : Option Nat) (l3 : Option Nat) (l4 : Int32) (h : MH) (hK : F_L_law_1790 k23 l0 l1 l2 l3 l4 h = some (r, hz)) : V 1790 [(0, va_rf l0), (1, va_rf l1), (2, va_rf l2), (3, va_rf l3), (4, .int l4)] [] h := by
  unfold F_L_law_1790 at hK
  refine mD_aload_n C (pc := 1790) 1 dL_law_1790 rfl ?_
  refine mD_aload_n C (pc := 1791) 0 dL_law_1791 rfl ?_
  refine mD_iload C (pc := 1792) 4 dL_law_1792 rfl ?_
  refine mD_iconst C (pc := 1794) (v := (1 : Int32)) dL_law_1794 (by decide) ?_
  refine mD_iadd C (pc := 1795) dL_law_1795 ?_
  replace hK := mm_bd hK; obtain ⟨v1796, e1796, hK⟩ := hK
  refine mD_sald C (pc := 1796) dL_law_1796 e1796 ?_
  refine mD_aload_n C (pc := 1797) 3 dL_law_1797 rfl ?_
  replace hK := mm_b2s hK; obtain ⟨v1798, h1798, e1798, hK⟩ := hK
  refine mD_callSW C (pc := 1798) (d1 := 72) (As := [va_rf l1, .int v1796, va_rf l3]) (st := []) (vk := (some (.int v1798))) ((S_L_partner (by omega)) e1798) tT_L_partner wd_1828 wd_1829 (by omega) (by decide) rfl (by simp [mm_crf, mm_cti, mm_ctl]) rfl dL_law_1798 ?_
  show V _ _ (.int v1798 :: _) _
  refine mD_istore C (pc := 1801) (i := 5) (lv' := [(5, .int v1798), (0, va_rf l0), (1, va_rf l1), (2, va_rf l2), (3, va_rf l3), (4, .int l4)]) dL_law_1801 (by decide) rfl ?_
  refine mD_aload_n C (pc := 1803) 3 dL_law_1803 rfl ?_
  refine mD_aload_n C (pc := 1804) 1 dL_law_1804 rfl ?_
  refine mD_iload C (pc := 1805) 5 dL_law_1805 rfl ?_
  refine mD_iconst C (pc := 1807) (v := (1 : Int32)) dL_law_1807 (by decide) ?_
  refine mD_iadd C (pc := 1808) dL_law_1808 ?_
  replace hK := mm_bd hK; obtain ⟨v1809, e1809, hK⟩ := hK
  refine mD_sald C (pc := 1809) dL_law_1809 e1809 ?_
  replace hK := mm_b2s hK; obtain ⟨v1810, h1810, e1810, hK⟩ := hK
  obtain ⟨o1810, e1810⟩ := cV_some e1810
  refine mD_callV C (pc := 1810) (d1 := 71) (As := [.int v1809]) (st := []) (vk := (some (.int v1810))) ((S_X12_partner (by omega)) e1810) tT_X12_partner o1810 (Or.inr ⟨_, rfl, rfl⟩) wd_2639 wd_2640 wd_2641 (by omega) (by decide) rfl (by simp [mm_crf, mm_cti, mm_ctl]) rfl dL_law_1810 ?_
  show V _ _ (.int v1810 :: _) _
  refine mD_istore C (pc := 1813) (i := 6) (lv' := [(6, .int v1810), (5, .int v1798), (0, va_rf l0), (1, va_rf l1), (2, va_rf l2), (3, va_rf l3), (4, .int l4)]) dL_law_1813 (by decide) rfl ?_
  refine mD_aload_n C (pc := 1815) 4 dL_law_1815 rfl ?_
  replace hK := mm_b2s hK; obtain ⟨v1816, h1816, e1816, hK⟩ := hK
  obtain ⟨o1816, e1816⟩ := cV_some e1816
  refine mD_callV C (pc := 1816) (d1 := 1) (As := []) (st := []) (vk := (some (.int v1816))) ((S_X12_thrown (by omega)) e1816) tT_X12_thrown o1816 (Or.inr ⟨_, rfl, rfl⟩) wd_2145 wd_2146 wd_2147 (by omega) (by decide) rfl (by simp [mm_crf, mm_cti, mm_ctl]) rfl dL_law_1816 ?_
  show V _ _ (.int v1816 :: _) _
  refine mD_iload C (pc := 1819) 1 dL_law_1819 rfl ?_
  refine mD_icmp_eq C (pc := 1821) (tgt := 1826) dL_law_1821 (by decide) (fun hc => ?_) (fun hc => ?_)
  · replace hK := mm_ip hc hK
    refine mD_iload C (pc := 1826) 1 dL_law_1826 rfl ?_
    refine mD_if_ne C (pc := 1828) (tgt := 1843) dL_law_1828 (by decide) (fun hc => ?_) (fun hc => ?_)
    · replace hK := mm_in hc hK
      refine mD_sub C [2, 3, 4, 5, 6] rfl ?_
      exact w_L_law_1843 hd C (fun z0 z1 z2 z3 z4 z5 hK => q23 z0 z1 z2 z3 z4 z5 hK) _ _ _ _ _ _ hK
    · replace hK := mm_ip hc hK
      refine mD_aload_n C (pc := 1831) 5 dL_law_1831 rfl ?_
      refine mD_iconst C (pc := 1832) (v := (0 : Int32)) dL_law_1832 (by decide) ?_
      replace hK := mm_bd hK; obtain ⟨v1833, e1833, hK⟩ := hK
      refine mD_lald C (pc := 1833) dL_law_1833 e1833 ?_
      refine mD_iload C (pc := 1834) 0 dL_law_1834 rfl ?_
      refine mD_i2l C (pc := 1836) dL_law_1836 ?_
      refine mD_lcmp C (pc := 1837) dL_law_1837 ?_
      refine mD_if_eq C (pc := 1838) (tgt := 1843) dL_law_1838 (by decide) (fun hc => ?_) (fun hc => ?_)
      · replace hK := mm_ip hc hK
        refine mD_sub C [2, 3, 4, 5, 6] rfl ?_
        exact w_L_law_1843 hd C (fun z0 z1 z2 z3 z4 z5 hK => q23 z0 z1 z2 z3 z4 z5 hK) _ _ _ _ _ _ hK
      · replace hK := mm_in hc hK
        refine mD_iconst C (pc := 1841) (v := (0 : Int32)) dL_law_1841 (by decide) ?_
        replace hK := rZ_some hK; obtain ⟨hv1842, hK⟩ := hK
        cases hK
        exact mD_zret C (pc := 1842) rfl (mm_nrZ hv1842) dL_law_1842 rfl rfl
  · replace hK := mm_in hc hK
    refine mD_iconst C (pc := 1824) (v := (0 : Int32)) dL_law_1824 (by decide) ?_
    replace hK := rZ_some hK; obtain ⟨hv1825, hK⟩ := hK
    cases hK
    exact mD_zret C (pc := 1825) rfl (mm_nrZ hv1825) dL_law_1825 rfl rfl
def F_L_law_1846 (k23 : Option Nat → Option Nat → Option Nat → Option Nat → Int32 → MH → Option (Int32 × MH)) (l0 : Option Nat) (l1 : Option Nat) (l2 : Option Nat) (l3 : Option Nat) (l4 : Int32) (h : MH) : Option (Int32 × MH) := mm_b2 (cV h l1 11 (F_X11_leave l1 h)) fun v1847 h1847 => mm_b2 (cV h1847 l2 12 (F_X12_leave l2 h1847)) fun v1851 h1851 => if v1847 = v1851 then (F_L_law_2603 k23 l0 l1 l2 l3 l4 h1851) else (rZ (0 : Int32) h1851)
set_option maxRecDepth 20000 in
set_option maxHeartbeats 4000000 in
theorem w_L_law_1846 {d : Nat} {V : Nat → List (Nat × Value) → List Value → MH → Prop} {r : Int32} {hz : MH} {k23 : Option Nat → Option Nat → Option Nat → Option Nat → Int32 → MH → Option (Int32 × MH)} (hd : 141 ≤ d) (C : mm_D [] d yL_law cL_law 8 (some .boolean) (.inr (some (.int r))) hz V) (q23 : ∀ (x0 : Option Nat) (x1 : Option Nat) (x2 : Option Nat) (x3 : Option Nat) (x4 : Int32) (h : MH), k23 x0 x1 x2 x3 x4 h = some (r, hz) → V 23 [(0, va_rf x0), (1, va_rf x1), (2, va_rf x2), (3, va_rf x3), (4, .int x4)] [] h) (l0 : Option Nat) (l1 : Option Nat) (l2 : Option Nat) (l3 : Option Nat) (l4 : Int32) (h : MH) (hK : F_L_law_1846 k23 l0 l1 l2 l3 l4 h = some (r, hz)) : V 1846 [(0, va_rf l0), (1, va_rf l1), (2, va_rf l2), (3, va_rf l3), (4, .int l4)] [] h := by
  unfold F_L_law_1846 at hK
  refine mD_aload_n C (pc := 1846) 1 dL_law_1846 rfl ?_
  replace hK := mm_b2s hK; obtain ⟨v1847, h1847, e1847, hK⟩ := hK
  obtain ⟨o1847, e1847⟩ := cV_some e1847
  refine mD_callV C (pc := 1847) (d1 := 4) (As := []) (st := []) (vk := (some (.int v1847))) ((S_X11_leave (by omega)) e1847) tT_X11_leave o1847 (Or.inr ⟨_, rfl, rfl⟩) wd_1122 wd_1123 wd_1124 (by omega) (by decide) rfl (by simp [mm_crf, mm_cti, mm_ctl]) rfl dL_law_1847 ?_
  show V _ _ (.int v1847 :: _) _
  refine mD_aload_n C (pc := 1850) 2 dL_law_1850 rfl ?_
  replace hK := mm_b2s hK; obtain ⟨v1851, h1851, e1851, hK⟩ := hK
  obtain ⟨o1851, e1851⟩ := cV_some e1851
  refine mD_callV C (pc := 1851) (d1 := 6) (As := []) (st := [.int v1847]) (vk := (some (.int v1851))) ((S_X12_leave (by omega)) e1851) tT_X12_leave o1851 (Or.inr ⟨_, rfl, rfl⟩) wd_2643 wd_2644 wd_2645 (by omega) (by decide) rfl (by simp [mm_crf, mm_cti, mm_ctl]) rfl dL_law_1851 ?_
  show V _ _ (.int v1851 :: _) _
  refine mD_icmp_eq C (pc := 1854) (tgt := 2603) dL_law_1854 (by decide) (fun hc => ?_) (fun hc => ?_)
  · replace hK := mm_ip hc hK
    exact w_L_law_2603 hd C (fun z0 z1 z2 z3 z4 z5 hK => q23 z0 z1 z2 z3 z4 z5 hK) _ _ _ _ _ _ hK
  · replace hK := mm_in hc hK
    refine mD_iconst C (pc := 1857) (v := (0 : Int32)) dL_law_1857 (by decide) ?_
    replace hK := rZ_some hK; obtain ⟨hv1858, hK⟩ := hK
    cases hK
    exact mD_zret C (pc := 1858) rfl (mm_nrZ hv1858) dL_law_1858 rfl rfl
def F_L_law_1859 (k23 : Option Nat → Option Nat → Option Nat → Option Nat → Int32 → MH → Option (Int32 × MH)) (l0 : Option Nat) (l1 : Option Nat) (l2 : Option Nat) (l3 : Option Nat) (l4 : Int32) (h : MH) : Option (Int32 × MH) := mm_b2 (cV h l1 11 (F_X11_darlings l1 h)) fun v1860 h1860 => mm_b2 (cV h1860 l2 12 (F_X12_darlings l2 h1860)) fun v1864 h1864 => if v1860 = v1864 then (F_L_law_2603 k23 l0 l1 l2 l3 l4 h1864) else (rZ (0 : Int32) h1864)
set_option maxRecDepth 20000 in
set_option maxHeartbeats 4000000 in
theorem w_L_law_1859 {d : Nat} {V : Nat → List (Nat × Value) → List Value → MH → Prop} {r : Int32} {hz : MH} {k23 : Option Nat → Option Nat → Option Nat → Option Nat → Int32 → MH → Option (Int32 × MH)} (hd : 141 ≤ d) (C : mm_D [] d yL_law cL_law 8 (some .boolean) (.inr (some (.int r))) hz V) (q23 : ∀ (x0 : Option Nat) (x1 : Option Nat) (x2 : Option Nat) (x3 : Option Nat) (x4 : Int32) (h : MH), k23 x0 x1 x2 x3 x4 h = some (r, hz) → V 23 [(0, va_rf x0), (1, va_rf x1), (2, va_rf x2), (3, va_rf x3), (4, .int x4)] [] h) (l0 : Option Nat) (l1 : Option Nat) (l2 : Option Nat) (l3 : Option Nat) (l4 : Int32) (h : MH) (hK : F_L_law_1859 k23 l0 l1 l2 l3 l4 h = some (r, hz)) : V 1859 [(0, va_rf l0), (1, va_rf l1), (2, va_rf l2), (3, va_rf l3), (4, .int l4)] [] h := by
  unfold F_L_law_1859 at hK
  refine mD_aload_n C (pc := 1859) 1 dL_law_1859 rfl ?_
  replace hK := mm_b2s hK; obtain ⟨v1860, h1860, e1860, hK⟩ := hK
  obtain ⟨o1860, e1860⟩ := cV_some e1860
  refine mD_callV C (pc := 1860) (d1 := 2) (As := []) (st := []) (vk := (some (.int v1860))) ((S_X11_darlings (by omega)) e1860) tT_X11_darlings o1860 (Or.inr ⟨_, rfl, rfl⟩) wd_1128 wd_1129 wd_1130 (by omega) (by decide) rfl (by simp [mm_crf, mm_cti, mm_ctl]) rfl dL_law_1860 ?_
  show V _ _ (.int v1860 :: _) _
  refine mD_aload_n C (pc := 1863) 2 dL_law_1863 rfl ?_
  replace hK := mm_b2s hK; obtain ⟨v1864, h1864, e1864, hK⟩ := hK
  obtain ⟨o1864, e1864⟩ := cV_some e1864
  refine mD_callV C (pc := 1864) (d1 := 6) (As := []) (st := [.int v1860]) (vk := (some (.int v1864))) ((S_X12_darlings (by omega)) e1864) tT_X12_darlings o1864 (Or.inr ⟨_, rfl, rfl⟩) wd_2647 wd_2648 wd_2649 (by omega) (by decide) rfl (by simp [mm_crf, mm_cti, mm_ctl]) rfl dL_law_1864 ?_
  show V _ _ (.int v1864 :: _) _
  refine mD_icmp_eq C (pc := 1867) (tgt := 2603) dL_law_1867 (by decide) (fun hc => ?_) (fun hc => ?_)
  · replace hK := mm_ip hc hK
    exact w_L_law_2603 hd C (fun z0 z1 z2 z3 z4 z5 hK => q23 z0 z1 z2 z3 z4 z5 hK) _ _ _ _ _ _ hK
  · replace hK := mm_in hc hK
    refine mD_iconst C (pc := 1870) (v := (0 : Int32)) dL_law_1870 (by decide) ?_
    replace hK := rZ_some hK; obtain ⟨hv1871, hK⟩ := hK
    cases hK
    exact mD_zret C (pc := 1871) rfl (mm_nrZ hv1871) dL_law_1871 rfl rfl
def F_L_law_1925 (k23 : Option Nat → Option Nat → Option Nat → Option Nat → Int32 → MH → Option (Int32 × MH)) (l0 : Option Nat) (l1 : Option Nat) (l2 : Option Nat) (l3 : Option Nat) (l4 : Int32) (h : MH) : Option (Int32 × MH) := F_L_law_2603 k23 l0 l1 l2 l3 l4 h
set_option maxRecDepth 20000 in
set_option maxHeartbeats 4000000 in
theorem w_L_law_1925 {d : Nat} {V : Nat → List (Nat × Value) → List Value → MH → Prop} {r : Int32} {hz : MH} {k23 : Option Nat → Option Nat → Option Nat → Option Nat → Int32 → MH → Option (Int32 × MH)} (hd : 141 ≤ d) (C : mm_D [] d yL_law cL_law 8 (some .boolean) (.inr (some (.int r))) hz V) (q23 : ∀ (x0 : Option Nat) (x1 : Option Nat) (x2 : Option Nat) (x3 : Option Nat) (x4 : Int32) (h : MH), k23 x0 x1 x2 x3 x4 h = some (r, hz) → V 23 [(0, va_rf x0), (1, va_rf x1), (2, va_rf x2), (3, va_rf x3), (4, .int x4)] [] h) (l0 : Option Nat) (l1 : Option Nat) (l2 : Option Nat) (l3 : Option Nat) (l4 : Int32) (h : MH) (hK : F_L_law_1925 k23 l0 l1 l2 l3 l4 h = some (r, hz)) : V 1925 [(0, va_rf l0), (1, va_rf l1), (2, va_rf l2), (3, va_rf l3), (4, .int l4)] [] h := by
  unfold F_L_law_1925 at hK
  refine mD_goto C (pc := 1925) (tgt := 2603) dL_law_1925 (by decide) ?_
  exact w_L_law_2603 hd C (fun z0 z1 z2 z3 z4 z5 hK => q23 z0 z1 z2 z3 z4 z5 hK) _ _ _ _ _ _ hK
def F_L_law_1872 (k23 : Option Nat → Option Nat → Option Nat → Option Nat → Int32 → MH → Option (Int32 × MH)) (l0 : Option Nat) (l1 : Option Nat) (l2 : Option Nat) (l3 : Option Nat) (l4 : Int32) (h : MH) : Option (Int32 × MH) := (aS h l0 (l4 + (1 : Int32))).bind fun v1878 => mm_b2 (F_L_happiest l1 v1878 l3 h) fun v1880 h1880 => (aS h1880 l0 (l4 + (1 : Int32))).bind fun v1891 => mm_b2 (cV h1880 l2 12 (F_X12_happiest l2 v1891 h1880)) fun v1892 h1892 => mm_b2 (cV h1892 l2 12 (F_X12_thrown l2 h1892)) fun v1898 h1898 => if v1898 = v1880 then (if v1880 = 0 then ((aL h1898 l3 (0 : Int32)).bind fun v1915 => if (lg_cmp v1915 (v1892.toInt64)) = 0 then (F_L_law_1925 k23 l0 l1 l2 l3 l4 h1898) else (rZ (0 : Int32) h1898)) else (F_L_law_1925 k23 l0 l1 l2 l3 l4 h1898)) else (rZ (0 : Int32) h1898)
set_option maxRecDepth 20000 in
set_option maxHeartbeats 4000000 in
theorem w_L_law_1872 {d : Nat} {V : Nat → List (Nat × Value) → List Value → MH → Prop} {r : Int32} {hz : MH} {k23 : Option Nat → Option Nat → Option Nat → Option Nat → Int32 → MH → Option (Int32 × MH)} (hd : 141 ≤ d) (C : mm_D [] d yL_law cL_law 8 (some .boolean) (.inr (some (.int r))) hz V) (q23 : ∀ (x0 : Option Nat) (x1 : Option Nat) (x2 : Option Nat) (x3 : Option Nat) (x4 : Int32) (h : MH), k23 x0 x1 x2 x3 x4 h = some (r, hz) → V 23 [(0, va_rf x0), (1, va_rf x1), (2, va_rf x2), (3, va_rf x3), (4, .int x4)] [] h) (l0 : Option Nat) (l1 : Option Nat) (l2 : Option Nat) (l3 : Option Nat) (l4 : Int32) (h : MH) (hK : F_L_law_1872 k23 l0 l1 l2 l3 l4 h = some (r, hz)) : V 1872 [(0, va_rf l0), (1, va_rf l1), (2, va_rf l2), (3, va_rf l3), (4, .int l4)] [] h := by
  unfold F_L_law_1872 at hK
  refine mD_aload_n C (pc := 1872) 1 dL_law_1872 rfl ?_
  refine mD_aload_n C (pc := 1873) 0 dL_law_1873 rfl ?_
  refine mD_iload C (pc := 1874) 4 dL_law_1874 rfl ?_
  refine mD_iconst C (pc := 1876) (v := (1 : Int32)) dL_law_1876 (by decide) ?_
  refine mD_iadd C (pc := 1877) dL_law_1877 ?_
  replace hK := mm_bd hK; obtain ⟨v1878, e1878, hK⟩ := hK
  refine mD_sald C (pc := 1878) dL_law_1878 e1878 ?_
  refine mD_aload_n C (pc := 1879) 3 dL_law_1879 rfl ?_
  replace hK := mm_b2s hK; obtain ⟨v1880, h1880, e1880, hK⟩ := hK
  refine mD_callSW C (pc := 1880) (d1 := 72) (As := [va_rf l1, .int v1878, va_rf l3]) (st := []) (vk := (some (.int v1880))) ((S_L_happiest (by omega)) e1880) tT_L_happiest wd_1839 wd_1840 (by omega) (by decide) rfl (by simp [mm_crf, mm_cti, mm_ctl]) rfl dL_law_1880 ?_
  show V _ _ (.int v1880 :: _) _
  refine mD_istore C (pc := 1883) (i := 5) (lv' := [(5, .int v1880), (0, va_rf l0), (1, va_rf l1), (2, va_rf l2), (3, va_rf l3), (4, .int l4)]) dL_law_1883 (by decide) rfl ?_
  refine mD_aload_n C (pc := 1885) 3 dL_law_1885 rfl ?_
  refine mD_aload_n C (pc := 1886) 1 dL_law_1886 rfl ?_
  refine mD_iload C (pc := 1887) 5 dL_law_1887 rfl ?_
  refine mD_iconst C (pc := 1889) (v := (1 : Int32)) dL_law_1889 (by decide) ?_
  refine mD_iadd C (pc := 1890) dL_law_1890 ?_
  replace hK := mm_bd hK; obtain ⟨v1891, e1891, hK⟩ := hK
  refine mD_sald C (pc := 1891) dL_law_1891 e1891 ?_
  replace hK := mm_b2s hK; obtain ⟨v1892, h1892, e1892, hK⟩ := hK
  obtain ⟨o1892, e1892⟩ := cV_some e1892
  refine mD_callV C (pc := 1892) (d1 := 71) (As := [.int v1891]) (st := []) (vk := (some (.int v1892))) ((S_X12_happiest (by omega)) e1892) tT_X12_happiest o1892 (Or.inr ⟨_, rfl, rfl⟩) wd_2651 wd_2652 wd_2653 (by omega) (by decide) rfl (by simp [mm_crf, mm_cti, mm_ctl]) rfl dL_law_1892 ?_
  show V _ _ (.int v1892 :: _) _
  refine mD_istore C (pc := 1895) (i := 6) (lv' := [(6, .int v1892), (5, .int v1880), (0, va_rf l0), (1, va_rf l1), (2, va_rf l2), (3, va_rf l3), (4, .int l4)]) dL_law_1895 (by decide) rfl ?_
  refine mD_aload_n C (pc := 1897) 4 dL_law_1897 rfl ?_
  replace hK := mm_b2s hK; obtain ⟨v1898, h1898, e1898, hK⟩ := hK
  obtain ⟨o1898, e1898⟩ := cV_some e1898
  refine mD_callV C (pc := 1898) (d1 := 1) (As := []) (st := []) (vk := (some (.int v1898))) ((S_X12_thrown (by omega)) e1898) tT_X12_thrown o1898 (Or.inr ⟨_, rfl, rfl⟩) wd_2145 wd_2146 wd_2147 (by omega) (by decide) rfl (by simp [mm_crf, mm_cti, mm_ctl]) rfl dL_law_1898 ?_
  show V _ _ (.int v1898 :: _) _
  refine mD_iload C (pc := 1901) 1 dL_law_1901 rfl ?_
  refine mD_icmp_eq C (pc := 1903) (tgt := 1908) dL_law_1903 (by decide) (fun hc => ?_) (fun hc => ?_)
  · replace hK := mm_ip hc hK
    refine mD_iload C (pc := 1908) 1 dL_law_1908 rfl ?_
    refine mD_if_ne C (pc := 1910) (tgt := 1925) dL_law_1910 (by decide) (fun hc => ?_) (fun hc => ?_)
    · replace hK := mm_in hc hK
      refine mD_sub C [2, 3, 4, 5, 6] rfl ?_
      exact w_L_law_1925 hd C (fun z0 z1 z2 z3 z4 z5 hK => q23 z0 z1 z2 z3 z4 z5 hK) _ _ _ _ _ _ hK
    · replace hK := mm_ip hc hK
      refine mD_aload_n C (pc := 1913) 5 dL_law_1913 rfl ?_
      refine mD_iconst C (pc := 1914) (v := (0 : Int32)) dL_law_1914 (by decide) ?_
      replace hK := mm_bd hK; obtain ⟨v1915, e1915, hK⟩ := hK
      refine mD_lald C (pc := 1915) dL_law_1915 e1915 ?_
      refine mD_iload C (pc := 1916) 0 dL_law_1916 rfl ?_
      refine mD_i2l C (pc := 1918) dL_law_1918 ?_
      refine mD_lcmp C (pc := 1919) dL_law_1919 ?_
      refine mD_if_eq C (pc := 1920) (tgt := 1925) dL_law_1920 (by decide) (fun hc => ?_) (fun hc => ?_)
      · replace hK := mm_ip hc hK
        refine mD_sub C [2, 3, 4, 5, 6] rfl ?_
        exact w_L_law_1925 hd C (fun z0 z1 z2 z3 z4 z5 hK => q23 z0 z1 z2 z3 z4 z5 hK) _ _ _ _ _ _ hK
      · replace hK := mm_in hc hK
        refine mD_iconst C (pc := 1923) (v := (0 : Int32)) dL_law_1923 (by decide) ?_
        replace hK := rZ_some hK; obtain ⟨hv1924, hK⟩ := hK
        cases hK
        exact mD_zret C (pc := 1924) rfl (mm_nrZ hv1924) dL_law_1924 rfl rfl
  · replace hK := mm_in hc hK
    refine mD_iconst C (pc := 1906) (v := (0 : Int32)) dL_law_1906 (by decide) ?_
    replace hK := rZ_some hK; obtain ⟨hv1907, hK⟩ := hK
    cases hK
    exact mD_zret C (pc := 1907) rfl (mm_nrZ hv1907) dL_law_1907 rfl rfl
def F_L_law_2016 (k23 : Option Nat → Option Nat → Option Nat → Option Nat → Int32 → MH → Option (Int32 × MH)) (l0 : Option Nat) (l1 : Option Nat) (l2 : Option Nat) (l3 : Option Nat) (l4 : Int32) (h : MH) : Option (Int32 × MH) := F_L_law_2603 k23 l0 l1 l2 l3 l4 h
set_option maxRecDepth 20000 in
set_option maxHeartbeats 4000000 in
theorem w_L_law_2016 {d : Nat} {V : Nat → List (Nat × Value) → List Value → MH → Prop} {r : Int32} {hz : MH} {k23 : Option Nat → Option Nat → Option Nat → Option Nat → Int32 → MH → Option (Int32 × MH)} (hd : 141 ≤ d) (C : mm_D [] d yL_law cL_law 8 (some .boolean) (.inr (some (.int r))) hz V) (q23 : ∀ (x0 : Option Nat) (x1 : Option Nat) (x2 : Option Nat) (x3 : Option Nat) (x4 : Int32) (h : MH), k23 x0 x1 x2 x3 x4 h = some (r, hz) → V 23 [(0, va_rf x0), (1, va_rf x1), (2, va_rf x2), (3, va_rf x3), (4, .int x4)] [] h) (l0 : Option Nat) (l1 : Option Nat) (l2 : Option Nat) (l3 : Option Nat) (l4 : Int32) (h : MH) (hK : F_L_law_2016 k23 l0 l1 l2 l3 l4 h = some (r, hz)) : V 2016 [(0, va_rf l0), (1, va_rf l1), (2, va_rf l2), (3, va_rf l3), (4, .int l4)] [] h := by
  unfold F_L_law_2016 at hK
  refine mD_goto C (pc := 2016) (tgt := 2603) dL_law_2016 (by decide) ?_
  exact w_L_law_2603 hd C (fun z0 z1 z2 z3 z4 z5 hK => q23 z0 z1 z2 z3 z4 z5 hK) _ _ _ _ _ _ hK
def F_L_law_1928 (k23 : Option Nat → Option Nat → Option Nat → Option Nat → Int32 → MH → Option (Int32 × MH)) (l0 : Option Nat) (l1 : Option Nat) (l2 : Option Nat) (l3 : Option Nat) (l4 : Int32) (h : MH) : Option (Int32 × MH) := (aS h l0 (l4 + (1 : Int32))).bind fun v1934 => (aS h l0 (l4 + (2 : Int32))).bind fun v1940 => (aS h l0 (l4 + (3 : Int32))).bind fun v1946 => (aS h l0 (l4 + (4 : Int32))).bind fun v1952 => mm_b2 (F_L_loss l1 v1934 v1940 v1946 v1952 l3 h) fun v1954 h1954 => (aS h1954 l0 (l4 + (1 : Int32))).bind fun v1965 => (aS h1954 l0 (l4 + (2 : Int32))).bind fun v1971 => (aS h1954 l0 (l4 + (3 : Int32))).bind fun v1977 => (aS h1954 l0 (l4 + (4 : Int32))).bind fun v1983 => mm_b2 (cV h1954 l2 12 (F_X12_loss l2 v1965 v1971 v1977 v1983 h1954)) fun v1984 h1984 => mm_b2 (cV h1984 l2 12 (F_X12_thrown l2 h1984)) fun v1990 h1990 => if v1990 = v1954 then (if v1954 = 0 then ((aL h1990 l3 (0 : Int32)).bind fun v2007 => if (lg_cmp v2007 v1984) = 0 then (F_L_law_2016 k23 l0 l1 l2 l3 l4 h1990) else (rZ (0 : Int32) h1990)) else (F_L_law_2016 k23 l0 l1 l2 l3 l4 h1990)) else (rZ (0 : Int32) h1990)
set_option maxRecDepth 20000 in
set_option maxHeartbeats 4000000 in
theorem w_L_law_1928 {d : Nat} {V : Nat → List (Nat × Value) → List Value → MH → Prop} {r : Int32} {hz : MH} {k23 : Option Nat → Option Nat → Option Nat → Option Nat → Int32 → MH → Option (Int32 × MH)} (hd : 141 ≤ d) (C : mm_D [] d yL_law cL_law 8 (some .boolean) (.inr (some (.int r))) hz V) (q23 : ∀ (x0 : Option Nat) (x1 : Option Nat) (x2 : Option Nat) (x3 : Option Nat) (x4 : Int32) (h : MH), k23 x0 x1 x2 x3 x4 h = some (r, hz) → V 23 [(0, va_rf x0), (1, va_rf x1), (2, va_rf x2), (3, va_rf x3), (4, .int x4)] [] h) (l0 : Option Nat) (l1 : Option Nat) (l2 : Option Nat) (l3 : Option Nat) (l4 : Int32) (h : MH) (hK : F_L_law_1928 k23 l0 l1 l2 l3 l4 h = some (r, hz)) : V 1928 [(0, va_rf l0), (1, va_rf l1), (2, va_rf l2), (3, va_rf l3), (4, .int l4)] [] h := by
  unfold F_L_law_1928 at hK
  refine mD_aload_n C (pc := 1928) 1 dL_law_1928 rfl ?_
  refine mD_aload_n C (pc := 1929) 0 dL_law_1929 rfl ?_
  refine mD_iload C (pc := 1930) 4 dL_law_1930 rfl ?_
  refine mD_iconst C (pc := 1932) (v := (1 : Int32)) dL_law_1932 (by decide) ?_
  refine mD_iadd C (pc := 1933) dL_law_1933 ?_
  replace hK := mm_bd hK; obtain ⟨v1934, e1934, hK⟩ := hK
  refine mD_sald C (pc := 1934) dL_law_1934 e1934 ?_
  refine mD_aload_n C (pc := 1935) 0 dL_law_1935 rfl ?_
  refine mD_iload C (pc := 1936) 4 dL_law_1936 rfl ?_
  refine mD_iconst C (pc := 1938) (v := (2 : Int32)) dL_law_1938 (by decide) ?_
  refine mD_iadd C (pc := 1939) dL_law_1939 ?_
  replace hK := mm_bd hK; obtain ⟨v1940, e1940, hK⟩ := hK
  refine mD_sald C (pc := 1940) dL_law_1940 e1940 ?_
  refine mD_aload_n C (pc := 1941) 0 dL_law_1941 rfl ?_
  refine mD_iload C (pc := 1942) 4 dL_law_1942 rfl ?_
  refine mD_iconst C (pc := 1944) (v := (3 : Int32)) dL_law_1944 (by decide) ?_
  refine mD_iadd C (pc := 1945) dL_law_1945 ?_
  replace hK := mm_bd hK; obtain ⟨v1946, e1946, hK⟩ := hK
  refine mD_sald C (pc := 1946) dL_law_1946 e1946 ?_
  refine mD_aload_n C (pc := 1947) 0 dL_law_1947 rfl ?_
  refine mD_iload C (pc := 1948) 4 dL_law_1948 rfl ?_
  refine mD_iconst C (pc := 1950) (v := (4 : Int32)) dL_law_1950 (by decide) ?_
  refine mD_iadd C (pc := 1951) dL_law_1951 ?_
  replace hK := mm_bd hK; obtain ⟨v1952, e1952, hK⟩ := hK
  refine mD_sald C (pc := 1952) dL_law_1952 e1952 ?_
  refine mD_aload_n C (pc := 1953) 3 dL_law_1953 rfl ?_
  replace hK := mm_b2s hK; obtain ⟨v1954, h1954, e1954, hK⟩ := hK
  refine mD_callSW C (pc := 1954) (d1 := 8) (As := [va_rf l1, .int v1934, .int v1940, .int v1946, .int v1952, va_rf l3]) (st := []) (vk := (some (.int v1954))) ((S_L_loss (by omega)) e1954) tT_L_loss wd_1854 wd_1855 (by omega) (by decide) rfl (by simp [mm_crf, mm_cti, mm_ctl]) rfl dL_law_1954 ?_
  show V _ _ (.int v1954 :: _) _
  refine mD_istore C (pc := 1957) (i := 5) (lv' := [(5, .int v1954), (0, va_rf l0), (1, va_rf l1), (2, va_rf l2), (3, va_rf l3), (4, .int l4)]) dL_law_1957 (by decide) rfl ?_
  refine mD_aload_n C (pc := 1959) 3 dL_law_1959 rfl ?_
  refine mD_aload_n C (pc := 1960) 1 dL_law_1960 rfl ?_
  refine mD_iload C (pc := 1961) 5 dL_law_1961 rfl ?_
  refine mD_iconst C (pc := 1963) (v := (1 : Int32)) dL_law_1963 (by decide) ?_
  refine mD_iadd C (pc := 1964) dL_law_1964 ?_
  replace hK := mm_bd hK; obtain ⟨v1965, e1965, hK⟩ := hK
  refine mD_sald C (pc := 1965) dL_law_1965 e1965 ?_
  refine mD_aload_n C (pc := 1966) 1 dL_law_1966 rfl ?_
  refine mD_iload C (pc := 1967) 5 dL_law_1967 rfl ?_
  refine mD_iconst C (pc := 1969) (v := (2 : Int32)) dL_law_1969 (by decide) ?_
  refine mD_iadd C (pc := 1970) dL_law_1970 ?_
  replace hK := mm_bd hK; obtain ⟨v1971, e1971, hK⟩ := hK
  refine mD_sald C (pc := 1971) dL_law_1971 e1971 ?_
  refine mD_aload_n C (pc := 1972) 1 dL_law_1972 rfl ?_
  refine mD_iload C (pc := 1973) 5 dL_law_1973 rfl ?_
  refine mD_iconst C (pc := 1975) (v := (3 : Int32)) dL_law_1975 (by decide) ?_
  refine mD_iadd C (pc := 1976) dL_law_1976 ?_
  replace hK := mm_bd hK; obtain ⟨v1977, e1977, hK⟩ := hK
  refine mD_sald C (pc := 1977) dL_law_1977 e1977 ?_
  refine mD_aload_n C (pc := 1978) 1 dL_law_1978 rfl ?_
  refine mD_iload C (pc := 1979) 5 dL_law_1979 rfl ?_
  refine mD_iconst C (pc := 1981) (v := (4 : Int32)) dL_law_1981 (by decide) ?_
  refine mD_iadd C (pc := 1982) dL_law_1982 ?_
  replace hK := mm_bd hK; obtain ⟨v1983, e1983, hK⟩ := hK
  refine mD_sald C (pc := 1983) dL_law_1983 e1983 ?_
  replace hK := mm_b2s hK; obtain ⟨v1984, h1984, e1984, hK⟩ := hK
  obtain ⟨o1984, e1984⟩ := cV_some e1984
  refine mD_callV C (pc := 1984) (d1 := 3) (As := [.int v1965, .int v1971, .int v1977, .int v1983]) (st := []) (vk := (some (.long v1984))) ((S_X12_loss (by omega)) e1984) tT_X12_loss o1984 (Or.inr ⟨_, rfl, rfl⟩) wd_2656 wd_2657 wd_2658 (by omega) (by decide) rfl (by simp [mm_crf, mm_cti, mm_ctl]) rfl dL_law_1984 ?_
  show V _ _ (.long v1984 :: _) _
  refine mD_lstore C (pc := 1987) (i := 6) (lv' := [(6, .long v1984), (5, .int v1954), (0, va_rf l0), (1, va_rf l1), (2, va_rf l2), (3, va_rf l3), (4, .int l4)]) dL_law_1987 (by decide) rfl ?_
  refine mD_aload_n C (pc := 1989) 4 dL_law_1989 rfl ?_
  replace hK := mm_b2s hK; obtain ⟨v1990, h1990, e1990, hK⟩ := hK
  obtain ⟨o1990, e1990⟩ := cV_some e1990
  refine mD_callV C (pc := 1990) (d1 := 1) (As := []) (st := []) (vk := (some (.int v1990))) ((S_X12_thrown (by omega)) e1990) tT_X12_thrown o1990 (Or.inr ⟨_, rfl, rfl⟩) wd_2145 wd_2146 wd_2147 (by omega) (by decide) rfl (by simp [mm_crf, mm_cti, mm_ctl]) rfl dL_law_1990 ?_
  show V _ _ (.int v1990 :: _) _
  refine mD_iload C (pc := 1993) 1 dL_law_1993 rfl ?_
  refine mD_icmp_eq C (pc := 1995) (tgt := 2000) dL_law_1995 (by decide) (fun hc => ?_) (fun hc => ?_)
  · replace hK := mm_ip hc hK
    refine mD_iload C (pc := 2000) 1 dL_law_2000 rfl ?_
    refine mD_if_ne C (pc := 2002) (tgt := 2016) dL_law_2002 (by decide) (fun hc => ?_) (fun hc => ?_)
    · replace hK := mm_in hc hK
      refine mD_sub C [2, 3, 4, 5, 6] rfl ?_
      exact w_L_law_2016 hd C (fun z0 z1 z2 z3 z4 z5 hK => q23 z0 z1 z2 z3 z4 z5 hK) _ _ _ _ _ _ hK
    · replace hK := mm_ip hc hK
      refine mD_aload_n C (pc := 2005) 5 dL_law_2005 rfl ?_
      refine mD_iconst C (pc := 2006) (v := (0 : Int32)) dL_law_2006 (by decide) ?_
      replace hK := mm_bd hK; obtain ⟨v2007, e2007, hK⟩ := hK
      refine mD_lald C (pc := 2007) dL_law_2007 e2007 ?_
      refine mD_lload C (pc := 2008) 0 dL_law_2008 rfl ?_
      refine mD_lcmp C (pc := 2010) dL_law_2010 ?_
      refine mD_if_eq C (pc := 2011) (tgt := 2016) dL_law_2011 (by decide) (fun hc => ?_) (fun hc => ?_)
      · replace hK := mm_ip hc hK
        refine mD_sub C [2, 3, 4, 5, 6] rfl ?_
        exact w_L_law_2016 hd C (fun z0 z1 z2 z3 z4 z5 hK => q23 z0 z1 z2 z3 z4 z5 hK) _ _ _ _ _ _ hK
      · replace hK := mm_in hc hK
        refine mD_iconst C (pc := 2014) (v := (0 : Int32)) dL_law_2014 (by decide) ?_
        replace hK := rZ_some hK; obtain ⟨hv2015, hK⟩ := hK
        cases hK
        exact mD_zret C (pc := 2015) rfl (mm_nrZ hv2015) dL_law_2015 rfl rfl
  · replace hK := mm_in hc hK
    refine mD_iconst C (pc := 1998) (v := (0 : Int32)) dL_law_1998 (by decide) ?_
    replace hK := rZ_some hK; obtain ⟨hv1999, hK⟩ := hK
    cases hK
    exact mD_zret C (pc := 1999) rfl (mm_nrZ hv1999) dL_law_1999 rfl rfl
def F_L_law_2096 (k23 : Option Nat → Option Nat → Option Nat → Option Nat → Int32 → MH → Option (Int32 × MH)) (l0 : Option Nat) (l1 : Option Nat) (l2 : Option Nat) (l3 : Option Nat) (l4 : Int32) (h : MH) : Option (Int32 × MH) := F_L_law_2603 k23 l0 l1 l2 l3 l4 h
set_option maxRecDepth 20000 in
set_option maxHeartbeats 4000000 in
theorem w_L_law_2096 {d : Nat} {V : Nat → List (Nat × Value) → List Value → MH → Prop} {r : Int32} {hz : MH} {k23 : Option Nat → Option Nat → Option Nat → Option Nat → Int32 → MH → Option (Int32 × MH)} (hd : 141 ≤ d) (C : mm_D [] d yL_law cL_law 8 (some .boolean) (.inr (some (.int r))) hz V) (q23 : ∀ (x0 : Option Nat) (x1 : Option Nat) (x2 : Option Nat) (x3 : Option Nat) (x4 : Int32) (h : MH), k23 x0 x1 x2 x3 x4 h = some (r, hz) → V 23 [(0, va_rf x0), (1, va_rf x1), (2, va_rf x2), (3, va_rf x3), (4, .int x4)] [] h) (l0 : Option Nat) (l1 : Option Nat) (l2 : Option Nat) (l3 : Option Nat) (l4 : Int32) (h : MH) (hK : F_L_law_2096 k23 l0 l1 l2 l3 l4 h = some (r, hz)) : V 2096 [(0, va_rf l0), (1, va_rf l1), (2, va_rf l2), (3, va_rf l3), (4, .int l4)] [] h := by
  unfold F_L_law_2096 at hK
  refine mD_goto C (pc := 2096) (tgt := 2603) dL_law_2096 (by decide) ?_
  exact w_L_law_2603 hd C (fun z0 z1 z2 z3 z4 z5 hK => q23 z0 z1 z2 z3 z4 z5 hK) _ _ _ _ _ _ hK
def F_L_law_2019 (k23 : Option Nat → Option Nat → Option Nat → Option Nat → Int32 → MH → Option (Int32 × MH)) (l0 : Option Nat) (l1 : Option Nat) (l2 : Option Nat) (l3 : Option Nat) (l4 : Int32) (h : MH) : Option (Int32 × MH) := (aS h l0 (l4 + (1 : Int32))).bind fun v2025 => (aS h l0 (l4 + (2 : Int32))).bind fun v2031 => (aS h l0 (l4 + (3 : Int32))).bind fun v2037 => mm_b2 (F_L_fewest l1 v2025 v2031 v2037 l3 h) fun v2039 h2039 => (aS h2039 l0 (l4 + (1 : Int32))).bind fun v2050 => (aS h2039 l0 (l4 + (2 : Int32))).bind fun v2056 => (aS h2039 l0 (l4 + (3 : Int32))).bind fun v2062 => mm_b2 (cV h2039 l2 12 (F_X12_fewest l2 v2050 v2056 v2062 h2039)) fun v2063 h2063 => mm_b2 (cV h2063 l2 12 (F_X12_thrown l2 h2063)) fun v2069 h2069 => if v2069 = v2039 then (if v2039 = 0 then ((aL h2069 l3 (0 : Int32)).bind fun v2086 => if (lg_cmp v2086 (v2063.toInt64)) = 0 then (F_L_law_2096 k23 l0 l1 l2 l3 l4 h2069) else (rZ (0 : Int32) h2069)) else (F_L_law_2096 k23 l0 l1 l2 l3 l4 h2069)) else (rZ (0 : Int32) h2069)
set_option maxRecDepth 20000 in
set_option maxHeartbeats 4000000 in
theorem w_L_law_2019 {d : Nat} {V : Nat → List (Nat × Value) → List Value → MH → Prop} {r : Int32} {hz : MH} {k23 : Option Nat → Option Nat → Option Nat → Option Nat → Int32 → MH → Option (Int32 × MH)} (hd : 141 ≤ d) (C : mm_D [] d yL_law cL_law 8 (some .boolean) (.inr (some (.int r))) hz V) (q23 : ∀ (x0 : Option Nat) (x1 : Option Nat) (x2 : Option Nat) (x3 : Option Nat) (x4 : Int32) (h : MH), k23 x0 x1 x2 x3 x4 h = some (r, hz) → V 23 [(0, va_rf x0), (1, va_rf x1), (2, va_rf x2), (3, va_rf x3), (4, .int x4)] [] h) (l0 : Option Nat) (l1 : Option Nat) (l2 : Option Nat) (l3 : Option Nat) (l4 : Int32) (h : MH) (hK : F_L_law_2019 k23 l0 l1 l2 l3 l4 h = some (r, hz)) : V 2019 [(0, va_rf l0), (1, va_rf l1), (2, va_rf l2), (3, va_rf l3), (4, .int l4)] [] h := by
  unfold F_L_law_2019 at hK
  refine mD_aload_n C (pc := 2019) 1 dL_law_2019 rfl ?_
  refine mD_aload_n C (pc := 2020) 0 dL_law_2020 rfl ?_
  refine mD_iload C (pc := 2021) 4 dL_law_2021 rfl ?_
  refine mD_iconst C (pc := 2023) (v := (1 : Int32)) dL_law_2023 (by decide) ?_
  refine mD_iadd C (pc := 2024) dL_law_2024 ?_
  replace hK := mm_bd hK; obtain ⟨v2025, e2025, hK⟩ := hK
  refine mD_sald C (pc := 2025) dL_law_2025 e2025 ?_
  refine mD_aload_n C (pc := 2026) 0 dL_law_2026 rfl ?_
  refine mD_iload C (pc := 2027) 4 dL_law_2027 rfl ?_
  refine mD_iconst C (pc := 2029) (v := (2 : Int32)) dL_law_2029 (by decide) ?_
  refine mD_iadd C (pc := 2030) dL_law_2030 ?_
  replace hK := mm_bd hK; obtain ⟨v2031, e2031, hK⟩ := hK
  refine mD_sald C (pc := 2031) dL_law_2031 e2031 ?_
  refine mD_aload_n C (pc := 2032) 0 dL_law_2032 rfl ?_
  refine mD_iload C (pc := 2033) 4 dL_law_2033 rfl ?_
  refine mD_iconst C (pc := 2035) (v := (3 : Int32)) dL_law_2035 (by decide) ?_
  refine mD_iadd C (pc := 2036) dL_law_2036 ?_
  replace hK := mm_bd hK; obtain ⟨v2037, e2037, hK⟩ := hK
  refine mD_sald C (pc := 2037) dL_law_2037 e2037 ?_
  refine mD_aload_n C (pc := 2038) 3 dL_law_2038 rfl ?_
  replace hK := mm_b2s hK; obtain ⟨v2039, h2039, e2039, hK⟩ := hK
  refine mD_callSW C (pc := 2039) (d1 := 8) (As := [va_rf l1, .int v2025, .int v2031, .int v2037, va_rf l3]) (st := []) (vk := (some (.int v2039))) ((S_L_fewest (by omega)) e2039) tT_L_fewest wd_1867 wd_1868 (by omega) (by decide) rfl (by simp [mm_crf, mm_cti, mm_ctl]) rfl dL_law_2039 ?_
  show V _ _ (.int v2039 :: _) _
  refine mD_istore C (pc := 2042) (i := 5) (lv' := [(5, .int v2039), (0, va_rf l0), (1, va_rf l1), (2, va_rf l2), (3, va_rf l3), (4, .int l4)]) dL_law_2042 (by decide) rfl ?_
  refine mD_aload_n C (pc := 2044) 3 dL_law_2044 rfl ?_
  refine mD_aload_n C (pc := 2045) 1 dL_law_2045 rfl ?_
  refine mD_iload C (pc := 2046) 5 dL_law_2046 rfl ?_
  refine mD_iconst C (pc := 2048) (v := (1 : Int32)) dL_law_2048 (by decide) ?_
  refine mD_iadd C (pc := 2049) dL_law_2049 ?_
  replace hK := mm_bd hK; obtain ⟨v2050, e2050, hK⟩ := hK
  refine mD_sald C (pc := 2050) dL_law_2050 e2050 ?_
  refine mD_aload_n C (pc := 2051) 1 dL_law_2051 rfl ?_
  refine mD_iload C (pc := 2052) 5 dL_law_2052 rfl ?_
  refine mD_iconst C (pc := 2054) (v := (2 : Int32)) dL_law_2054 (by decide) ?_
  refine mD_iadd C (pc := 2055) dL_law_2055 ?_
  replace hK := mm_bd hK; obtain ⟨v2056, e2056, hK⟩ := hK
  refine mD_sald C (pc := 2056) dL_law_2056 e2056 ?_
  refine mD_aload_n C (pc := 2057) 1 dL_law_2057 rfl ?_
  refine mD_iload C (pc := 2058) 5 dL_law_2058 rfl ?_
  refine mD_iconst C (pc := 2060) (v := (3 : Int32)) dL_law_2060 (by decide) ?_
  refine mD_iadd C (pc := 2061) dL_law_2061 ?_
  replace hK := mm_bd hK; obtain ⟨v2062, e2062, hK⟩ := hK
  refine mD_sald C (pc := 2062) dL_law_2062 e2062 ?_
  replace hK := mm_b2s hK; obtain ⟨v2063, h2063, e2063, hK⟩ := hK
  obtain ⟨o2063, e2063⟩ := cV_some e2063
  refine mD_callV C (pc := 2063) (d1 := 3) (As := [.int v2050, .int v2056, .int v2062]) (st := []) (vk := (some (.int v2063))) ((S_X12_fewest (by omega)) e2063) tT_X12_fewest o2063 (Or.inr ⟨_, rfl, rfl⟩) wd_2672 wd_2673 wd_2674 (by omega) (by decide) rfl (by simp [mm_crf, mm_cti, mm_ctl]) rfl dL_law_2063 ?_
  show V _ _ (.int v2063 :: _) _
  refine mD_istore C (pc := 2066) (i := 6) (lv' := [(6, .int v2063), (5, .int v2039), (0, va_rf l0), (1, va_rf l1), (2, va_rf l2), (3, va_rf l3), (4, .int l4)]) dL_law_2066 (by decide) rfl ?_
  refine mD_aload_n C (pc := 2068) 4 dL_law_2068 rfl ?_
  replace hK := mm_b2s hK; obtain ⟨v2069, h2069, e2069, hK⟩ := hK
  obtain ⟨o2069, e2069⟩ := cV_some e2069
  refine mD_callV C (pc := 2069) (d1 := 1) (As := []) (st := []) (vk := (some (.int v2069))) ((S_X12_thrown (by omega)) e2069) tT_X12_thrown o2069 (Or.inr ⟨_, rfl, rfl⟩) wd_2145 wd_2146 wd_2147 (by omega) (by decide) rfl (by simp [mm_crf, mm_cti, mm_ctl]) rfl dL_law_2069 ?_
  show V _ _ (.int v2069 :: _) _
  refine mD_iload C (pc := 2072) 1 dL_law_2072 rfl ?_
  refine mD_icmp_eq C (pc := 2074) (tgt := 2079) dL_law_2074 (by decide) (fun hc => ?_) (fun hc => ?_)
  · replace hK := mm_ip hc hK
    refine mD_iload C (pc := 2079) 1 dL_law_2079 rfl ?_
    refine mD_if_ne C (pc := 2081) (tgt := 2096) dL_law_2081 (by decide) (fun hc => ?_) (fun hc => ?_)
    · replace hK := mm_in hc hK
      refine mD_sub C [2, 3, 4, 5, 6] rfl ?_
      exact w_L_law_2096 hd C (fun z0 z1 z2 z3 z4 z5 hK => q23 z0 z1 z2 z3 z4 z5 hK) _ _ _ _ _ _ hK
    · replace hK := mm_ip hc hK
      refine mD_aload_n C (pc := 2084) 5 dL_law_2084 rfl ?_
      refine mD_iconst C (pc := 2085) (v := (0 : Int32)) dL_law_2085 (by decide) ?_
      replace hK := mm_bd hK; obtain ⟨v2086, e2086, hK⟩ := hK
      refine mD_lald C (pc := 2086) dL_law_2086 e2086 ?_
      refine mD_iload C (pc := 2087) 0 dL_law_2087 rfl ?_
      refine mD_i2l C (pc := 2089) dL_law_2089 ?_
      refine mD_lcmp C (pc := 2090) dL_law_2090 ?_
      refine mD_if_eq C (pc := 2091) (tgt := 2096) dL_law_2091 (by decide) (fun hc => ?_) (fun hc => ?_)
      · replace hK := mm_ip hc hK
        refine mD_sub C [2, 3, 4, 5, 6] rfl ?_
        exact w_L_law_2096 hd C (fun z0 z1 z2 z3 z4 z5 hK => q23 z0 z1 z2 z3 z4 z5 hK) _ _ _ _ _ _ hK
      · replace hK := mm_in hc hK
        refine mD_iconst C (pc := 2094) (v := (0 : Int32)) dL_law_2094 (by decide) ?_
        replace hK := rZ_some hK; obtain ⟨hv2095, hK⟩ := hK
        cases hK
        exact mD_zret C (pc := 2095) rfl (mm_nrZ hv2095) dL_law_2095 rfl rfl
  · replace hK := mm_in hc hK
    refine mD_iconst C (pc := 2077) (v := (0 : Int32)) dL_law_2077 (by decide) ?_
    replace hK := rZ_some hK; obtain ⟨hv2078, hK⟩ := hK
    cases hK
    exact mD_zret C (pc := 2078) rfl (mm_nrZ hv2078) dL_law_2078 rfl rfl
def F_L_law_2152 (k23 : Option Nat → Option Nat → Option Nat → Option Nat → Int32 → MH → Option (Int32 × MH)) (l0 : Option Nat) (l1 : Option Nat) (l2 : Option Nat) (l3 : Option Nat) (l4 : Int32) (h : MH) : Option (Int32 × MH) := F_L_law_2603 k23 l0 l1 l2 l3 l4 h
set_option maxRecDepth 20000 in
set_option maxHeartbeats 4000000 in
theorem w_L_law_2152 {d : Nat} {V : Nat → List (Nat × Value) → List Value → MH → Prop} {r : Int32} {hz : MH} {k23 : Option Nat → Option Nat → Option Nat → Option Nat → Int32 → MH → Option (Int32 × MH)} (hd : 141 ≤ d) (C : mm_D [] d yL_law cL_law 8 (some .boolean) (.inr (some (.int r))) hz V) (q23 : ∀ (x0 : Option Nat) (x1 : Option Nat) (x2 : Option Nat) (x3 : Option Nat) (x4 : Int32) (h : MH), k23 x0 x1 x2 x3 x4 h = some (r, hz) → V 23 [(0, va_rf x0), (1, va_rf x1), (2, va_rf x2), (3, va_rf x3), (4, .int x4)] [] h) (l0 : Option Nat) (l1 : Option Nat) (l2 : Option Nat) (l3 : Option Nat) (l4 : Int32) (h : MH) (hK : F_L_law_2152 k23 l0 l1 l2 l3 l4 h = some (r, hz)) : V 2152 [(0, va_rf l0), (1, va_rf l1), (2, va_rf l2), (3, va_rf l3), (4, .int l4)] [] h := by
  unfold F_L_law_2152 at hK
  refine mD_goto C (pc := 2152) (tgt := 2603) dL_law_2152 (by decide) ?_
  exact w_L_law_2603 hd C (fun z0 z1 z2 z3 z4 z5 hK => q23 z0 z1 z2 z3 z4 z5 hK) _ _ _ _ _ _ hK
def F_L_law_2099 (k23 : Option Nat → Option Nat → Option Nat → Option Nat → Int32 → MH → Option (Int32 × MH)) (l0 : Option Nat) (l1 : Option Nat) (l2 : Option Nat) (l3 : Option Nat) (l4 : Int32) (h : MH) : Option (Int32 × MH) := (aS h l0 (l4 + (1 : Int32))).bind fun v2105 => mm_b2 (F_L_rules l1 v2105 l3 h) fun v2107 h2107 => (aS h2107 l0 (l4 + (1 : Int32))).bind fun v2118 => mm_b2 (cV h2107 l2 12 (F_X12_rules l2 v2118 h2107)) fun v2119 h2119 => mm_b2 (cV h2119 l2 12 (F_X12_thrown l2 h2119)) fun v2125 h2125 => if v2125 = v2107 then (if v2107 = 0 then ((aL h2125 l3 (0 : Int32)).bind fun v2142 => if (lg_cmp v2142 (v2119.toInt64)) = 0 then (F_L_law_2152 k23 l0 l1 l2 l3 l4 h2125) else (rZ (0 : Int32) h2125)) else (F_L_law_2152 k23 l0 l1 l2 l3 l4 h2125)) else (rZ (0 : Int32) h2125)
set_option maxRecDepth 20000 in
set_option maxHeartbeats 4000000 in
theorem w_L_law_2099 {d : Nat} {V : Nat → List (Nat × Value) → List Value → MH → Prop} {r : Int32} {hz : MH} {k23 : Option Nat → Option Nat → Option Nat → Option Nat → Int32 → MH → Option (Int32 × MH)} (hd : 141 ≤ d) (C : mm_D [] d yL_law cL_law 8 (some .boolean) (.inr (some (.int r))) hz V) (q23 : ∀ (x0 : Option Nat) (x1 : Option Nat) (x2 : Option Nat) (x3 : Option Nat) (x4 : Int32) (h : MH), k23 x0 x1 x2 x3 x4 h = some (r, hz) → V 23 [(0, va_rf x0), (1, va_rf x1), (2, va_rf x2), (3, va_rf x3), (4, .int x4)] [] h) (l0 : Option Nat) (l1 : Option Nat) (l2 : Option Nat) (l3 : Option Nat) (l4 : Int32) (h : MH) (hK : F_L_law_2099 k23 l0 l1 l2 l3 l4 h = some (r, hz)) : V 2099 [(0, va_rf l0), (1, va_rf l1), (2, va_rf l2), (3, va_rf l3), (4, .int l4)] [] h := by
  unfold F_L_law_2099 at hK
  refine mD_aload_n C (pc := 2099) 1 dL_law_2099 rfl ?_
  refine mD_aload_n C (pc := 2100) 0 dL_law_2100 rfl ?_
  refine mD_iload C (pc := 2101) 4 dL_law_2101 rfl ?_
  refine mD_iconst C (pc := 2103) (v := (1 : Int32)) dL_law_2103 (by decide) ?_
  refine mD_iadd C (pc := 2104) dL_law_2104 ?_
  replace hK := mm_bd hK; obtain ⟨v2105, e2105, hK⟩ := hK
  refine mD_sald C (pc := 2105) dL_law_2105 e2105 ?_
  refine mD_aload_n C (pc := 2106) 3 dL_law_2106 rfl ?_
  replace hK := mm_b2s hK; obtain ⟨v2107, h2107, e2107, hK⟩ := hK
  refine mD_callSW C (pc := 2107) (d1 := 9) (As := [va_rf l1, .int v2105, va_rf l3]) (st := []) (vk := (some (.int v2107))) ((S_L_rules (by omega)) e2107) tT_L_rules wd_1874 wd_1875 (by omega) (by decide) rfl (by simp [mm_crf, mm_cti, mm_ctl]) rfl dL_law_2107 ?_
  show V _ _ (.int v2107 :: _) _
  refine mD_istore C (pc := 2110) (i := 5) (lv' := [(5, .int v2107), (0, va_rf l0), (1, va_rf l1), (2, va_rf l2), (3, va_rf l3), (4, .int l4)]) dL_law_2110 (by decide) rfl ?_
  refine mD_aload_n C (pc := 2112) 3 dL_law_2112 rfl ?_
  refine mD_aload_n C (pc := 2113) 1 dL_law_2113 rfl ?_
  refine mD_iload C (pc := 2114) 5 dL_law_2114 rfl ?_
  refine mD_iconst C (pc := 2116) (v := (1 : Int32)) dL_law_2116 (by decide) ?_
  refine mD_iadd C (pc := 2117) dL_law_2117 ?_
  replace hK := mm_bd hK; obtain ⟨v2118, e2118, hK⟩ := hK
  refine mD_sald C (pc := 2118) dL_law_2118 e2118 ?_
  replace hK := mm_b2s hK; obtain ⟨v2119, h2119, e2119, hK⟩ := hK
  obtain ⟨o2119, e2119⟩ := cV_some e2119
  refine mD_callV C (pc := 2119) (d1 := 5) (As := [.int v2118]) (st := []) (vk := (some (.int v2119))) ((S_X12_rules (by omega)) e2119) tT_X12_rules o2119 (Or.inr ⟨_, rfl, rfl⟩) wd_2676 wd_2677 wd_2678 (by omega) (by decide) rfl (by simp [mm_crf, mm_cti, mm_ctl]) rfl dL_law_2119 ?_
  show V _ _ (.int v2119 :: _) _
  refine mD_istore C (pc := 2122) (i := 6) (lv' := [(6, .int v2119), (5, .int v2107), (0, va_rf l0), (1, va_rf l1), (2, va_rf l2), (3, va_rf l3), (4, .int l4)]) dL_law_2122 (by decide) rfl ?_
  refine mD_aload_n C (pc := 2124) 4 dL_law_2124 rfl ?_
  replace hK := mm_b2s hK; obtain ⟨v2125, h2125, e2125, hK⟩ := hK
  obtain ⟨o2125, e2125⟩ := cV_some e2125
  refine mD_callV C (pc := 2125) (d1 := 1) (As := []) (st := []) (vk := (some (.int v2125))) ((S_X12_thrown (by omega)) e2125) tT_X12_thrown o2125 (Or.inr ⟨_, rfl, rfl⟩) wd_2145 wd_2146 wd_2147 (by omega) (by decide) rfl (by simp [mm_crf, mm_cti, mm_ctl]) rfl dL_law_2125 ?_
  show V _ _ (.int v2125 :: _) _
  refine mD_iload C (pc := 2128) 1 dL_law_2128 rfl ?_
  refine mD_icmp_eq C (pc := 2130) (tgt := 2135) dL_law_2130 (by decide) (fun hc => ?_) (fun hc => ?_)
  · replace hK := mm_ip hc hK
    refine mD_iload C (pc := 2135) 1 dL_law_2135 rfl ?_
    refine mD_if_ne C (pc := 2137) (tgt := 2152) dL_law_2137 (by decide) (fun hc => ?_) (fun hc => ?_)
    · replace hK := mm_in hc hK
      refine mD_sub C [2, 3, 4, 5, 6] rfl ?_
      exact w_L_law_2152 hd C (fun z0 z1 z2 z3 z4 z5 hK => q23 z0 z1 z2 z3 z4 z5 hK) _ _ _ _ _ _ hK
    · replace hK := mm_ip hc hK
      refine mD_aload_n C (pc := 2140) 5 dL_law_2140 rfl ?_
      refine mD_iconst C (pc := 2141) (v := (0 : Int32)) dL_law_2141 (by decide) ?_
      replace hK := mm_bd hK; obtain ⟨v2142, e2142, hK⟩ := hK
      refine mD_lald C (pc := 2142) dL_law_2142 e2142 ?_
      refine mD_iload C (pc := 2143) 0 dL_law_2143 rfl ?_
      refine mD_i2l C (pc := 2145) dL_law_2145 ?_
      refine mD_lcmp C (pc := 2146) dL_law_2146 ?_
      refine mD_if_eq C (pc := 2147) (tgt := 2152) dL_law_2147 (by decide) (fun hc => ?_) (fun hc => ?_)
      · replace hK := mm_ip hc hK
        refine mD_sub C [2, 3, 4, 5, 6] rfl ?_
        exact w_L_law_2152 hd C (fun z0 z1 z2 z3 z4 z5 hK => q23 z0 z1 z2 z3 z4 z5 hK) _ _ _ _ _ _ hK
      · replace hK := mm_in hc hK
        refine mD_iconst C (pc := 2150) (v := (0 : Int32)) dL_law_2150 (by decide) ?_
        replace hK := rZ_some hK; obtain ⟨hv2151, hK⟩ := hK
        cases hK
        exact mD_zret C (pc := 2151) rfl (mm_nrZ hv2151) dL_law_2151 rfl rfl
  · replace hK := mm_in hc hK
    refine mD_iconst C (pc := 2133) (v := (0 : Int32)) dL_law_2133 (by decide) ?_
    replace hK := rZ_some hK; obtain ⟨hv2134, hK⟩ := hK
    cases hK
    exact mD_zret C (pc := 2134) rfl (mm_nrZ hv2134) dL_law_2134 rfl rfl
def F_L_law_2220 (k23 : Option Nat → Option Nat → Option Nat → Option Nat → Int32 → MH → Option (Int32 × MH)) (l0 : Option Nat) (l1 : Option Nat) (l2 : Option Nat) (l3 : Option Nat) (l4 : Int32) (h : MH) : Option (Int32 × MH) := F_L_law_2603 k23 l0 l1 l2 l3 l4 h
set_option maxRecDepth 20000 in
set_option maxHeartbeats 4000000 in
theorem w_L_law_2220 {d : Nat} {V : Nat → List (Nat × Value) → List Value → MH → Prop} {r : Int32} {hz : MH} {k23 : Option Nat → Option Nat → Option Nat → Option Nat → Int32 → MH → Option (Int32 × MH)} (hd : 141 ≤ d) (C : mm_D [] d yL_law cL_law 8 (some .boolean) (.inr (some (.int r))) hz V) (q23 : ∀ (x0 : Option Nat) (x1 : Option Nat) (x2 : Option Nat) (x3 : Option Nat) (x4 : Int32) (h : MH), k23 x0 x1 x2 x3 x4 h = some (r, hz) → V 23 [(0, va_rf x0), (1, va_rf x1), (2, va_rf x2), (3, va_rf x3), (4, .int x4)] [] h) (l0 : Option Nat) (l1 : Option Nat) (l2 : Option Nat) (l3 : Option Nat) (l4 : Int32) (h : MH) (hK : F_L_law_2220 k23 l0 l1 l2 l3 l4 h = some (r, hz)) : V 2220 [(0, va_rf l0), (1, va_rf l1), (2, va_rf l2), (3, va_rf l3), (4, .int l4)] [] h := by
  unfold F_L_law_2220 at hK
  refine mD_goto C (pc := 2220) (tgt := 2603) dL_law_2220 (by decide) ?_
  exact w_L_law_2603 hd C (fun z0 z1 z2 z3 z4 z5 hK => q23 z0 z1 z2 z3 z4 z5 hK) _ _ _ _ _ _ hK
def F_L_law_2155 (k23 : Option Nat → Option Nat → Option Nat → Option Nat → Int32 → MH → Option (Int32 × MH)) (l0 : Option Nat) (l1 : Option Nat) (l2 : Option Nat) (l3 : Option Nat) (l4 : Int32) (h : MH) : Option (Int32 × MH) := (aS h l0 (l4 + (1 : Int32))).bind fun v2161 => (aS h l0 (l4 + (2 : Int32))).bind fun v2167 => mm_b2 (F_L_rule l1 v2161 v2167 l3 h) fun v2169 h2169 => (aS h2169 l0 (l4 + (1 : Int32))).bind fun v2180 => (aS h2169 l0 (l4 + (2 : Int32))).bind fun v2186 => mm_b2 (cV h2169 l2 12 (F_X12_rule l2 v2180 v2186 h2169)) fun v2187 h2187 => mm_b2 (cV h2187 l2 12 (F_X12_thrown l2 h2187)) fun v2193 h2193 => if v2193 = v2169 then (if v2169 = 0 then ((aL h2193 l3 (0 : Int32)).bind fun v2210 => if (lg_cmp v2210 (v2187.toInt64)) = 0 then (F_L_law_2220 k23 l0 l1 l2 l3 l4 h2193) else (rZ (0 : Int32) h2193)) else (F_L_law_2220 k23 l0 l1 l2 l3 l4 h2193)) else (rZ (0 : Int32) h2193)
set_option maxRecDepth 20000 in
set_option maxHeartbeats 4000000 in
theorem w_L_law_2155 {d : Nat} {V : Nat → List (Nat × Value) → List Value → MH → Prop} {r : Int32} {hz : MH} {k23 : Option Nat → Option Nat → Option Nat → Option Nat → Int32 → MH → Option (Int32 × MH)} (hd : 141 ≤ d) (C : mm_D [] d yL_law cL_law 8 (some .boolean) (.inr (some (.int r))) hz V) (q23 : ∀ (x0 : Option Nat) (x1 : Option Nat) (x2 : Option Nat) (x3 : Option Nat) (x4 : Int32) (h : MH), k23 x0 x1 x2 x3 x4 h = some (r, hz) → V 23 [(0, va_rf x0), (1, va_rf x1), (2, va_rf x2), (3, va_rf x3), (4, .int x4)] [] h) (l0 : Option Nat) (l1 : Option Nat) (l2 : Option Nat) (l3 : Option Nat) (l4 : Int32) (h : MH) (hK : F_L_law_2155 k23 l0 l1 l2 l3 l4 h = some (r, hz)) : V 2155 [(0, va_rf l0), (1, va_rf l1), (2, va_rf l2), (3, va_rf l3), (4, .int l4)] [] h := by
  unfold F_L_law_2155 at hK
  refine mD_aload_n C (pc := 2155) 1 dL_law_2155 rfl ?_
  refine mD_aload_n C (pc := 2156) 0 dL_law_2156 rfl ?_
  refine mD_iload C (pc := 2157) 4 dL_law_2157 rfl ?_
  refine mD_iconst C (pc := 2159) (v := (1 : Int32)) dL_law_2159 (by decide) ?_
  refine mD_iadd C (pc := 2160) dL_law_2160 ?_
  replace hK := mm_bd hK; obtain ⟨v2161, e2161, hK⟩ := hK
  refine mD_sald C (pc := 2161) dL_law_2161 e2161 ?_
  refine mD_aload_n C (pc := 2162) 0 dL_law_2162 rfl ?_
  refine mD_iload C (pc := 2163) 4 dL_law_2163 rfl ?_
  refine mD_iconst C (pc := 2165) (v := (2 : Int32)) dL_law_2165 (by decide) ?_
  refine mD_iadd C (pc := 2166) dL_law_2166 ?_
  replace hK := mm_bd hK; obtain ⟨v2167, e2167, hK⟩ := hK
  refine mD_sald C (pc := 2167) dL_law_2167 e2167 ?_
  refine mD_aload_n C (pc := 2168) 3 dL_law_2168 rfl ?_
  replace hK := mm_b2s hK; obtain ⟨v2169, h2169, e2169, hK⟩ := hK
  refine mD_callSW C (pc := 2169) (d1 := 9) (As := [va_rf l1, .int v2161, .int v2167, va_rf l3]) (st := []) (vk := (some (.int v2169))) ((S_L_rule (by omega)) e2169) tT_L_rule wd_1894 wd_1895 (by omega) (by decide) rfl (by simp [mm_crf, mm_cti, mm_ctl]) rfl dL_law_2169 ?_
  show V _ _ (.int v2169 :: _) _
  refine mD_istore C (pc := 2172) (i := 5) (lv' := [(5, .int v2169), (0, va_rf l0), (1, va_rf l1), (2, va_rf l2), (3, va_rf l3), (4, .int l4)]) dL_law_2172 (by decide) rfl ?_
  refine mD_aload_n C (pc := 2174) 3 dL_law_2174 rfl ?_
  refine mD_aload_n C (pc := 2175) 1 dL_law_2175 rfl ?_
  refine mD_iload C (pc := 2176) 5 dL_law_2176 rfl ?_
  refine mD_iconst C (pc := 2178) (v := (1 : Int32)) dL_law_2178 (by decide) ?_
  refine mD_iadd C (pc := 2179) dL_law_2179 ?_
  replace hK := mm_bd hK; obtain ⟨v2180, e2180, hK⟩ := hK
  refine mD_sald C (pc := 2180) dL_law_2180 e2180 ?_
  refine mD_aload_n C (pc := 2181) 1 dL_law_2181 rfl ?_
  refine mD_iload C (pc := 2182) 5 dL_law_2182 rfl ?_
  refine mD_iconst C (pc := 2184) (v := (2 : Int32)) dL_law_2184 (by decide) ?_
  refine mD_iadd C (pc := 2185) dL_law_2185 ?_
  replace hK := mm_bd hK; obtain ⟨v2186, e2186, hK⟩ := hK
  refine mD_sald C (pc := 2186) dL_law_2186 e2186 ?_
  replace hK := mm_b2s hK; obtain ⟨v2187, h2187, e2187, hK⟩ := hK
  obtain ⟨o2187, e2187⟩ := cV_some e2187
  refine mD_callV C (pc := 2187) (d1 := 5) (As := [.int v2180, .int v2186]) (st := []) (vk := (some (.int v2187))) ((S_X12_rule (by omega)) e2187) tT_X12_rule o2187 (Or.inr ⟨_, rfl, rfl⟩) wd_2693 wd_2694 wd_2695 (by omega) (by decide) rfl (by simp [mm_crf, mm_cti, mm_ctl]) rfl dL_law_2187 ?_
  show V _ _ (.int v2187 :: _) _
  refine mD_istore C (pc := 2190) (i := 6) (lv' := [(6, .int v2187), (5, .int v2169), (0, va_rf l0), (1, va_rf l1), (2, va_rf l2), (3, va_rf l3), (4, .int l4)]) dL_law_2190 (by decide) rfl ?_
  refine mD_aload_n C (pc := 2192) 4 dL_law_2192 rfl ?_
  replace hK := mm_b2s hK; obtain ⟨v2193, h2193, e2193, hK⟩ := hK
  obtain ⟨o2193, e2193⟩ := cV_some e2193
  refine mD_callV C (pc := 2193) (d1 := 1) (As := []) (st := []) (vk := (some (.int v2193))) ((S_X12_thrown (by omega)) e2193) tT_X12_thrown o2193 (Or.inr ⟨_, rfl, rfl⟩) wd_2145 wd_2146 wd_2147 (by omega) (by decide) rfl (by simp [mm_crf, mm_cti, mm_ctl]) rfl dL_law_2193 ?_
  show V _ _ (.int v2193 :: _) _
  refine mD_iload C (pc := 2196) 1 dL_law_2196 rfl ?_
  refine mD_icmp_eq C (pc := 2198) (tgt := 2203) dL_law_2198 (by decide) (fun hc => ?_) (fun hc => ?_)
  · replace hK := mm_ip hc hK
    refine mD_iload C (pc := 2203) 1 dL_law_2203 rfl ?_
    refine mD_if_ne C (pc := 2205) (tgt := 2220) dL_law_2205 (by decide) (fun hc => ?_) (fun hc => ?_)
    · replace hK := mm_in hc hK
      refine mD_sub C [2, 3, 4, 5, 6] rfl ?_
      exact w_L_law_2220 hd C (fun z0 z1 z2 z3 z4 z5 hK => q23 z0 z1 z2 z3 z4 z5 hK) _ _ _ _ _ _ hK
    · replace hK := mm_ip hc hK
      refine mD_aload_n C (pc := 2208) 5 dL_law_2208 rfl ?_
      refine mD_iconst C (pc := 2209) (v := (0 : Int32)) dL_law_2209 (by decide) ?_
      replace hK := mm_bd hK; obtain ⟨v2210, e2210, hK⟩ := hK
      refine mD_lald C (pc := 2210) dL_law_2210 e2210 ?_
      refine mD_iload C (pc := 2211) 0 dL_law_2211 rfl ?_
      refine mD_i2l C (pc := 2213) dL_law_2213 ?_
      refine mD_lcmp C (pc := 2214) dL_law_2214 ?_
      refine mD_if_eq C (pc := 2215) (tgt := 2220) dL_law_2215 (by decide) (fun hc => ?_) (fun hc => ?_)
      · replace hK := mm_ip hc hK
        refine mD_sub C [2, 3, 4, 5, 6] rfl ?_
        exact w_L_law_2220 hd C (fun z0 z1 z2 z3 z4 z5 hK => q23 z0 z1 z2 z3 z4 z5 hK) _ _ _ _ _ _ hK
      · replace hK := mm_in hc hK
        refine mD_iconst C (pc := 2218) (v := (0 : Int32)) dL_law_2218 (by decide) ?_
        replace hK := rZ_some hK; obtain ⟨hv2219, hK⟩ := hK
        cases hK
        exact mD_zret C (pc := 2219) rfl (mm_nrZ hv2219) dL_law_2219 rfl rfl
  · replace hK := mm_in hc hK
    refine mD_iconst C (pc := 2201) (v := (0 : Int32)) dL_law_2201 (by decide) ?_
    replace hK := rZ_some hK; obtain ⟨hv2202, hK⟩ := hK
    cases hK
    exact mD_zret C (pc := 2202) rfl (mm_nrZ hv2202) dL_law_2202 rfl rfl
def F_L_law_2276 (k23 : Option Nat → Option Nat → Option Nat → Option Nat → Int32 → MH → Option (Int32 × MH)) (l0 : Option Nat) (l1 : Option Nat) (l2 : Option Nat) (l3 : Option Nat) (l4 : Int32) (h : MH) : Option (Int32 × MH) := F_L_law_2603 k23 l0 l1 l2 l3 l4 h
set_option maxRecDepth 20000 in
set_option maxHeartbeats 4000000 in
theorem w_L_law_2276 {d : Nat} {V : Nat → List (Nat × Value) → List Value → MH → Prop} {r : Int32} {hz : MH} {k23 : Option Nat → Option Nat → Option Nat → Option Nat → Int32 → MH → Option (Int32 × MH)} (hd : 141 ≤ d) (C : mm_D [] d yL_law cL_law 8 (some .boolean) (.inr (some (.int r))) hz V) (q23 : ∀ (x0 : Option Nat) (x1 : Option Nat) (x2 : Option Nat) (x3 : Option Nat) (x4 : Int32) (h : MH), k23 x0 x1 x2 x3 x4 h = some (r, hz) → V 23 [(0, va_rf x0), (1, va_rf x1), (2, va_rf x2), (3, va_rf x3), (4, .int x4)] [] h) (l0 : Option Nat) (l1 : Option Nat) (l2 : Option Nat) (l3 : Option Nat) (l4 : Int32) (h : MH) (hK : F_L_law_2276 k23 l0 l1 l2 l3 l4 h = some (r, hz)) : V 2276 [(0, va_rf l0), (1, va_rf l1), (2, va_rf l2), (3, va_rf l3), (4, .int l4)] [] h := by
  unfold F_L_law_2276 at hK
  refine mD_goto C (pc := 2276) (tgt := 2603) dL_law_2276 (by decide) ?_
  exact w_L_law_2603 hd C (fun z0 z1 z2 z3 z4 z5 hK => q23 z0 z1 z2 z3 z4 z5 hK) _ _ _ _ _ _ hK
def F_L_law_2223 (k23 : Option Nat → Option Nat → Option Nat → Option Nat → Int32 → MH → Option (Int32 × MH)) (l0 : Option Nat) (l1 : Option Nat) (l2 : Option Nat) (l3 : Option Nat) (l4 : Int32) (h : MH) : Option (Int32 × MH) := (aS h l0 (l4 + (1 : Int32))).bind fun v2229 => mm_b2 (F_L_ask l1 v2229 l3 h) fun v2231 h2231 => (aS h2231 l0 (l4 + (1 : Int32))).bind fun v2242 => mm_b2 (cV h2231 l2 12 (F_X12_ask l2 v2242 h2231)) fun v2243 h2243 => mm_b2 (cV h2243 l2 12 (F_X12_thrown l2 h2243)) fun v2249 h2249 => if v2249 = v2231 then (if v2231 = 0 then ((aL h2249 l3 (0 : Int32)).bind fun v2266 => if (lg_cmp v2266 (v2243.toInt64)) = 0 then (F_L_law_2276 k23 l0 l1 l2 l3 l4 h2249) else (rZ (0 : Int32) h2249)) else (F_L_law_2276 k23 l0 l1 l2 l3 l4 h2249)) else (rZ (0 : Int32) h2249)
set_option maxRecDepth 20000 in
set_option maxHeartbeats 4000000 in
theorem w_L_law_2223 {d : Nat} {V : Nat → List (Nat × Value) → List Value → MH → Prop} {r : Int32} {hz : MH} {k23 : Option Nat → Option Nat → Option Nat → Option Nat → Int32 → MH → Option (Int32 × MH)} (hd : 141 ≤ d) (C : mm_D [] d yL_law cL_law 8 (some .boolean) (.inr (some (.int r))) hz V) (q23 : ∀ (x0 : Option Nat) (x1 : Option Nat) (x2 : Option Nat) (x3 : Option Nat) (x4 : Int32) (h : MH), k23 x0 x1 x2 x3 x4 h = some (r, hz) → V 23 [(0, va_rf x0), (1, va_rf x1), (2, va_rf x2), (3, va_rf x3), (4, .int x4)] [] h) (l0 : Option Nat) (l1 : Option Nat) (l2 : Option Nat) (l3 : Option Nat) (l4 : Int32) (h : MH) (hK : F_L_law_2223 k23 l0 l1 l2 l3 l4 h = some (r, hz)) : V 2223 [(0, va_rf l0), (1, va_rf l1), (2, va_rf l2), (3, va_rf l3), (4, .int l4)] [] h := by
  unfold F_L_law_2223 at hK
  refine mD_aload_n C (pc := 2223) 1 dL_law_2223 rfl ?_
  refine mD_aload_n C (pc := 2224) 0 dL_law_2224 rfl ?_
  refine mD_iload C (pc := 2225) 4 dL_law_2225 rfl ?_
  refine mD_iconst C (pc := 2227) (v := (1 : Int32)) dL_law_2227 (by decide) ?_
  refine mD_iadd C (pc := 2228) dL_law_2228 ?_
  replace hK := mm_bd hK; obtain ⟨v2229, e2229, hK⟩ := hK
  refine mD_sald C (pc := 2229) dL_law_2229 e2229 ?_
  refine mD_aload_n C (pc := 2230) 3 dL_law_2230 rfl ?_
  replace hK := mm_b2s hK; obtain ⟨v2231, h2231, e2231, hK⟩ := hK
  refine mD_callSW C (pc := 2231) (d1 := 9) (As := [va_rf l1, .int v2229, va_rf l3]) (st := []) (vk := (some (.int v2231))) ((S_L_ask (by omega)) e2231) tT_L_ask wd_1902 wd_1903 (by omega) (by decide) rfl (by simp [mm_crf, mm_cti, mm_ctl]) rfl dL_law_2231 ?_
  show V _ _ (.int v2231 :: _) _
  refine mD_istore C (pc := 2234) (i := 5) (lv' := [(5, .int v2231), (0, va_rf l0), (1, va_rf l1), (2, va_rf l2), (3, va_rf l3), (4, .int l4)]) dL_law_2234 (by decide) rfl ?_
  refine mD_aload_n C (pc := 2236) 3 dL_law_2236 rfl ?_
  refine mD_aload_n C (pc := 2237) 1 dL_law_2237 rfl ?_
  refine mD_iload C (pc := 2238) 5 dL_law_2238 rfl ?_
  refine mD_iconst C (pc := 2240) (v := (1 : Int32)) dL_law_2240 (by decide) ?_
  refine mD_iadd C (pc := 2241) dL_law_2241 ?_
  replace hK := mm_bd hK; obtain ⟨v2242, e2242, hK⟩ := hK
  refine mD_sald C (pc := 2242) dL_law_2242 e2242 ?_
  replace hK := mm_b2s hK; obtain ⟨v2243, h2243, e2243, hK⟩ := hK
  obtain ⟨o2243, e2243⟩ := cV_some e2243
  refine mD_callV C (pc := 2243) (d1 := 5) (As := [.int v2242]) (st := []) (vk := (some (.int v2243))) ((S_X12_ask (by omega)) e2243) tT_X12_ask o2243 (Or.inr ⟨_, rfl, rfl⟩) wd_2697 wd_2698 wd_2699 (by omega) (by decide) rfl (by simp [mm_crf, mm_cti, mm_ctl]) rfl dL_law_2243 ?_
  show V _ _ (.int v2243 :: _) _
  refine mD_istore C (pc := 2246) (i := 6) (lv' := [(6, .int v2243), (5, .int v2231), (0, va_rf l0), (1, va_rf l1), (2, va_rf l2), (3, va_rf l3), (4, .int l4)]) dL_law_2246 (by decide) rfl ?_
  refine mD_aload_n C (pc := 2248) 4 dL_law_2248 rfl ?_
  replace hK := mm_b2s hK; obtain ⟨v2249, h2249, e2249, hK⟩ := hK
  obtain ⟨o2249, e2249⟩ := cV_some e2249
  refine mD_callV C (pc := 2249) (d1 := 1) (As := []) (st := []) (vk := (some (.int v2249))) ((S_X12_thrown (by omega)) e2249) tT_X12_thrown o2249 (Or.inr ⟨_, rfl, rfl⟩) wd_2145 wd_2146 wd_2147 (by omega) (by decide) rfl (by simp [mm_crf, mm_cti, mm_ctl]) rfl dL_law_2249 ?_
  show V _ _ (.int v2249 :: _) _
  refine mD_iload C (pc := 2252) 1 dL_law_2252 rfl ?_
  refine mD_icmp_eq C (pc := 2254) (tgt := 2259) dL_law_2254 (by decide) (fun hc => ?_) (fun hc => ?_)
  · replace hK := mm_ip hc hK
    refine mD_iload C (pc := 2259) 1 dL_law_2259 rfl ?_
    refine mD_if_ne C (pc := 2261) (tgt := 2276) dL_law_2261 (by decide) (fun hc => ?_) (fun hc => ?_)
    · replace hK := mm_in hc hK
      refine mD_sub C [2, 3, 4, 5, 6] rfl ?_
      exact w_L_law_2276 hd C (fun z0 z1 z2 z3 z4 z5 hK => q23 z0 z1 z2 z3 z4 z5 hK) _ _ _ _ _ _ hK
    · replace hK := mm_ip hc hK
      refine mD_aload_n C (pc := 2264) 5 dL_law_2264 rfl ?_
      refine mD_iconst C (pc := 2265) (v := (0 : Int32)) dL_law_2265 (by decide) ?_
      replace hK := mm_bd hK; obtain ⟨v2266, e2266, hK⟩ := hK
      refine mD_lald C (pc := 2266) dL_law_2266 e2266 ?_
      refine mD_iload C (pc := 2267) 0 dL_law_2267 rfl ?_
      refine mD_i2l C (pc := 2269) dL_law_2269 ?_
      refine mD_lcmp C (pc := 2270) dL_law_2270 ?_
      refine mD_if_eq C (pc := 2271) (tgt := 2276) dL_law_2271 (by decide) (fun hc => ?_) (fun hc => ?_)
      · replace hK := mm_ip hc hK
        refine mD_sub C [2, 3, 4, 5, 6] rfl ?_
        exact w_L_law_2276 hd C (fun z0 z1 z2 z3 z4 z5 hK => q23 z0 z1 z2 z3 z4 z5 hK) _ _ _ _ _ _ hK
      · replace hK := mm_in hc hK
        refine mD_iconst C (pc := 2274) (v := (0 : Int32)) dL_law_2274 (by decide) ?_
        replace hK := rZ_some hK; obtain ⟨hv2275, hK⟩ := hK
        cases hK
        exact mD_zret C (pc := 2275) rfl (mm_nrZ hv2275) dL_law_2275 rfl rfl
  · replace hK := mm_in hc hK
    refine mD_iconst C (pc := 2257) (v := (0 : Int32)) dL_law_2257 (by decide) ?_
    replace hK := rZ_some hK; obtain ⟨hv2258, hK⟩ := hK
    cases hK
    exact mD_zret C (pc := 2258) rfl (mm_nrZ hv2258) dL_law_2258 rfl rfl
def F_L_law_2279 (k23 : Option Nat → Option Nat → Option Nat → Option Nat → Int32 → MH → Option (Int32 × MH)) (l0 : Option Nat) (l1 : Option Nat) (l2 : Option Nat) (l3 : Option Nat) (l4 : Int32) (h : MH) : Option (Int32 × MH) := (aS h l0 (l4 + (1 : Int32))).bind fun v2285 => (aS h l0 (l4 + (2 : Int32))).bind fun v2291 => (aS h l0 (l4 + (3 : Int32))).bind fun v2297 => mm_b2 (F_L_tray l1 v2285 v2291 v2297 h) fun v2298 h2298 => (aS h2298 l0 (l4 + (1 : Int32))).bind fun v2309 => (aS h2298 l0 (l4 + (2 : Int32))).bind fun v2315 => (aS h2298 l0 (l4 + (3 : Int32))).bind fun v2321 => (cV h2298 l2 12 (F_X12_tray l2 v2309 v2315 v2321 h2298)).bind fun h2322 => mm_b2 (cV h2322 l2 12 (F_X12_thrown l2 h2322)) fun v2326 h2326 => if v2326 = v2298 then (F_L_law_2603 k23 l0 l1 l2 l3 l4 h2326) else (rZ (0 : Int32) h2326)
set_option maxRecDepth 20000 in
set_option maxHeartbeats 4000000 in
theorem w_L_law_2279 {d : Nat} {V : Nat → List (Nat × Value) → List Value → MH → Prop} {r : Int32} {hz : MH} {k23 : Option Nat → Option Nat → Option Nat → Option Nat → Int32 → MH → Option (Int32 × MH)} (hd : 141 ≤ d) (C : mm_D [] d yL_law cL_law 8 (some .boolean) (.inr (some (.int r))) hz V) (q23 : ∀ (x0 : Option Nat) (x1 : Option Nat) (x2 : Option Nat) (x3 : Option Nat) (x4 : Int32) (h : MH), k23 x0 x1 x2 x3 x4 h = some (r, hz) → V 23 [(0, va_rf x0), (1, va_rf x1), (2, va_rf x2), (3, va_rf x3), (4, .int x4)] [] h) (l0 : Option Nat) (l1 : Option Nat) (l2 : Option Nat) (l3 : Option Nat) (l4 : Int32) (h : MH) (hK : F_L_law_2279 k23 l0 l1 l2 l3 l4 h = some (r, hz)) : V 2279 [(0, va_rf l0), (1, va_rf l1), (2, va_rf l2), (3, va_rf l3), (4, .int l4)] [] h := by
  unfold F_L_law_2279 at hK
  refine mD_aload_n C (pc := 2279) 1 dL_law_2279 rfl ?_
  refine mD_aload_n C (pc := 2280) 0 dL_law_2280 rfl ?_
  refine mD_iload C (pc := 2281) 4 dL_law_2281 rfl ?_
  refine mD_iconst C (pc := 2283) (v := (1 : Int32)) dL_law_2283 (by decide) ?_
  refine mD_iadd C (pc := 2284) dL_law_2284 ?_
  replace hK := mm_bd hK; obtain ⟨v2285, e2285, hK⟩ := hK
  refine mD_sald C (pc := 2285) dL_law_2285 e2285 ?_
  refine mD_aload_n C (pc := 2286) 0 dL_law_2286 rfl ?_
  refine mD_iload C (pc := 2287) 4 dL_law_2287 rfl ?_
  refine mD_iconst C (pc := 2289) (v := (2 : Int32)) dL_law_2289 (by decide) ?_
  refine mD_iadd C (pc := 2290) dL_law_2290 ?_
  replace hK := mm_bd hK; obtain ⟨v2291, e2291, hK⟩ := hK
  refine mD_sald C (pc := 2291) dL_law_2291 e2291 ?_
  refine mD_aload_n C (pc := 2292) 0 dL_law_2292 rfl ?_
  refine mD_iload C (pc := 2293) 4 dL_law_2293 rfl ?_
  refine mD_iconst C (pc := 2295) (v := (3 : Int32)) dL_law_2295 (by decide) ?_
  refine mD_iadd C (pc := 2296) dL_law_2296 ?_
  replace hK := mm_bd hK; obtain ⟨v2297, e2297, hK⟩ := hK
  refine mD_sald C (pc := 2297) dL_law_2297 e2297 ?_
  replace hK := mm_b2s hK; obtain ⟨v2298, h2298, e2298, hK⟩ := hK
  refine mD_callSW C (pc := 2298) (d1 := 8) (As := [va_rf l1, .int v2285, .int v2291, .int v2297]) (st := []) (vk := (some (.int v2298))) ((S_L_tray (by omega)) e2298) tT_L_tray wd_1915 wd_1916 (by omega) (by decide) rfl (by simp [mm_crf, mm_cti, mm_ctl]) rfl dL_law_2298 ?_
  show V _ _ (.int v2298 :: _) _
  refine mD_istore C (pc := 2301) (i := 5) (lv' := [(5, .int v2298), (0, va_rf l0), (1, va_rf l1), (2, va_rf l2), (3, va_rf l3), (4, .int l4)]) dL_law_2301 (by decide) rfl ?_
  refine mD_aload_n C (pc := 2303) 3 dL_law_2303 rfl ?_
  refine mD_aload_n C (pc := 2304) 1 dL_law_2304 rfl ?_
  refine mD_iload C (pc := 2305) 5 dL_law_2305 rfl ?_
  refine mD_iconst C (pc := 2307) (v := (1 : Int32)) dL_law_2307 (by decide) ?_
  refine mD_iadd C (pc := 2308) dL_law_2308 ?_
  replace hK := mm_bd hK; obtain ⟨v2309, e2309, hK⟩ := hK
  refine mD_sald C (pc := 2309) dL_law_2309 e2309 ?_
  refine mD_aload_n C (pc := 2310) 1 dL_law_2310 rfl ?_
  refine mD_iload C (pc := 2311) 5 dL_law_2311 rfl ?_
  refine mD_iconst C (pc := 2313) (v := (2 : Int32)) dL_law_2313 (by decide) ?_
  refine mD_iadd C (pc := 2314) dL_law_2314 ?_
  replace hK := mm_bd hK; obtain ⟨v2315, e2315, hK⟩ := hK
  refine mD_sald C (pc := 2315) dL_law_2315 e2315 ?_
  refine mD_aload_n C (pc := 2316) 1 dL_law_2316 rfl ?_
  refine mD_iload C (pc := 2317) 5 dL_law_2317 rfl ?_
  refine mD_iconst C (pc := 2319) (v := (3 : Int32)) dL_law_2319 (by decide) ?_
  refine mD_iadd C (pc := 2320) dL_law_2320 ?_
  replace hK := mm_bd hK; obtain ⟨v2321, e2321, hK⟩ := hK
  refine mD_sald C (pc := 2321) dL_law_2321 e2321 ?_
  replace hK := mm_bd hK; obtain ⟨h2322, e2322, hK⟩ := hK
  obtain ⟨o2322, e2322⟩ := cV_some e2322
  refine mD_callV C (pc := 2322) (d1 := 3) (As := [.int v2309, .int v2315, .int v2321]) (st := []) (vk := none) ((S_X12_tray (by omega)) e2322) tT_X12_tray o2322 (Or.inr ⟨_, rfl, rfl⟩) wd_2706 wd_2707 wd_2708 (by omega) (by decide) rfl (by simp [mm_crf, mm_cti, mm_ctl]) rfl dL_law_2322 ?_
  show V _ _ [] _
  refine mD_aload_n C (pc := 2325) 3 dL_law_2325 rfl ?_
  replace hK := mm_b2s hK; obtain ⟨v2326, h2326, e2326, hK⟩ := hK
  obtain ⟨o2326, e2326⟩ := cV_some e2326
  refine mD_callV C (pc := 2326) (d1 := 1) (As := []) (st := []) (vk := (some (.int v2326))) ((S_X12_thrown (by omega)) e2326) tT_X12_thrown o2326 (Or.inr ⟨_, rfl, rfl⟩) wd_2145 wd_2146 wd_2147 (by omega) (by decide) rfl (by simp [mm_crf, mm_cti, mm_ctl]) rfl dL_law_2326 ?_
  show V _ _ (.int v2326 :: _) _
  refine mD_iload C (pc := 2329) 0 dL_law_2329 rfl ?_
  refine mD_icmp_eq C (pc := 2331) (tgt := 2336) dL_law_2331 (by decide) (fun hc => ?_) (fun hc => ?_)
  · replace hK := mm_ip hc hK
    refine mD_goto C (pc := 2336) (tgt := 2603) dL_law_2336 (by decide) ?_
    refine mD_sub C [1, 2, 3, 4, 5] rfl ?_
    exact w_L_law_2603 hd C (fun z0 z1 z2 z3 z4 z5 hK => q23 z0 z1 z2 z3 z4 z5 hK) _ _ _ _ _ _ hK
  · replace hK := mm_in hc hK
    refine mD_iconst C (pc := 2334) (v := (0 : Int32)) dL_law_2334 (by decide) ?_
    replace hK := rZ_some hK; obtain ⟨hv2335, hK⟩ := hK
    cases hK
    exact mD_zret C (pc := 2335) rfl (mm_nrZ hv2335) dL_law_2335 rfl rfl
def F_L_law_2447 (k23 : Option Nat → Option Nat → Option Nat → Option Nat → Int32 → MH → Option (Int32 × MH)) (l0 : Option Nat) (l1 : Option Nat) (l2 : Option Nat) (l3 : Option Nat) (l4 : Int32) (h : MH) : Option (Int32 × MH) := F_L_law_2603 k23 l0 l1 l2 l3 l4 h
set_option maxRecDepth 20000 in
set_option maxHeartbeats 4000000 in
theorem w_L_law_2447 {d : Nat} {V : Nat → List (Nat × Value) → List Value → MH → Prop} {r : Int32} {hz : MH} {k23 : Option Nat → Option Nat → Option Nat → Option Nat → Int32 → MH → Option (Int32 × MH)} (hd : 141 ≤ d) (C : mm_D [] d yL_law cL_law 8 (some .boolean) (.inr (some (.int r))) hz V) (q23 : ∀ (x0 : Option Nat) (x1 : Option Nat) (x2 : Option Nat) (x3 : Option Nat) (x4 : Int32) (h : MH), k23 x0 x1 x2 x3 x4 h = some (r, hz) → V 23 [(0, va_rf x0), (1, va_rf x1), (2, va_rf x2), (3, va_rf x3), (4, .int x4)] [] h) (l0 : Option Nat) (l1 : Option Nat) (l2 : Option Nat) (l3 : Option Nat) (l4 : Int32) (h : MH) (hK : F_L_law_2447 k23 l0 l1 l2 l3 l4 h = some (r, hz)) : V 2447 [(0, va_rf l0), (1, va_rf l1), (2, va_rf l2), (3, va_rf l3), (4, .int l4)] [] h := by
  unfold F_L_law_2447 at hK
  refine mD_goto C (pc := 2447) (tgt := 2603) dL_law_2447 (by decide) ?_
  exact w_L_law_2603 hd C (fun z0 z1 z2 z3 z4 z5 hK => q23 z0 z1 z2 z3 z4 z5 hK) _ _ _ _ _ _ hK
def F_L_law_2339 (k23 : Option Nat → Option Nat → Option Nat → Option Nat → Int32 → MH → Option (Int32 × MH)) (l0 : Option Nat) (l1 : Option Nat) (l2 : Option Nat) (l3 : Option Nat) (l4 : Int32) (h : MH) : Option (Int32 × MH) := (aS h l0 (l4 + (1 : Int32))).bind fun v2345 => (aS h l0 (l4 + (2 : Int32))).bind fun v2351 => (aS h l0 (l4 + (3 : Int32))).bind fun v2357 => (aS h l0 (l4 + (4 : Int32))).bind fun v2367 => mm_b2 (F_L_write l1 v2345 v2351 (((v2357.toInt64) <<< ((32 : Int32).toInt64 &&& 63)) ||| ((v2367.toInt64) &&& (4294967295 : Int64))) l3 h) fun v2375 h2375 => (aS h2375 l0 (l4 + (1 : Int32))).bind fun v2386 => (aS h2375 l0 (l4 + (2 : Int32))).bind fun v2392 => (aS h2375 l0 (l4 + (3 : Int32))).bind fun v2398 => (aS h2375 l0 (l4 + (4 : Int32))).bind fun v2408 => mm_b2 (cV h2375 l2 12 (F_X12_write l2 v2386 v2392 (((v2398.toInt64) <<< ((32 : Int32).toInt64 &&& 63)) ||| ((v2408.toInt64) &&& (4294967295 : Int64))) h2375)) fun v2415 h2415 => mm_b2 (cV h2415 l2 12 (F_X12_thrown l2 h2415)) fun v2421 h2421 => if v2421 = v2375 then (if v2375 = 0 then ((aL h2421 l3 (0 : Int32)).bind fun v2438 => if (lg_cmp v2438 v2415) = 0 then (F_L_law_2447 k23 l0 l1 l2 l3 l4 h2421) else (rZ (0 : Int32) h2421)) else (F_L_law_2447 k23 l0 l1 l2 l3 l4 h2421)) else (rZ (0 : Int32) h2421)
set_option maxRecDepth 20000 in
set_option maxHeartbeats 4000000 in
theorem w_L_law_2339 {d : Nat} {V : Nat → List (Nat × Value) → List Value → MH → Prop} {r : Int32} {hz : MH} {k23 : Option Nat → Option Nat → Option Nat → Option Nat → Int32 → MH → Option (Int32 × MH)} (hd : 141 ≤ d) (C : mm_D [] d yL_law cL_law 8 (some .boolean) (.inr (some (.int r))) hz V) (q23 : ∀ (x0 : Option Nat) (x1 : Option Nat) (x2 : Option Nat) (x3 : Option Nat) (x4 : Int32) (h : MH), k23 x0 x1 x2 x3 x4 h = some (r, hz) → V 23 [(0, va_rf x0), (1, va_rf x1), (2, va_rf x2), (3, va_rf x3), (4, .int x4)] [] h) (l0 : Option Nat) (l1 : Option Nat) (l2 : Option Nat) (l3 : Option Nat) (l4 : Int32) (h : MH) (hK : F_L_law_2339 k23 l0 l1 l2 l3 l4 h = some (r, hz)) : V 2339 [(0, va_rf l0), (1, va_rf l1), (2, va_rf l2), (3, va_rf l3), (4, .int l4)] [] h := by
  unfold F_L_law_2339 at hK
  refine mD_aload_n C (pc := 2339) 1 dL_law_2339 rfl ?_
  refine mD_aload_n C (pc := 2340) 0 dL_law_2340 rfl ?_
  refine mD_iload C (pc := 2341) 4 dL_law_2341 rfl ?_
  refine mD_iconst C (pc := 2343) (v := (1 : Int32)) dL_law_2343 (by decide) ?_
  refine mD_iadd C (pc := 2344) dL_law_2344 ?_
  replace hK := mm_bd hK; obtain ⟨v2345, e2345, hK⟩ := hK
  refine mD_sald C (pc := 2345) dL_law_2345 e2345 ?_
  refine mD_aload_n C (pc := 2346) 0 dL_law_2346 rfl ?_
  refine mD_iload C (pc := 2347) 4 dL_law_2347 rfl ?_
  refine mD_iconst C (pc := 2349) (v := (2 : Int32)) dL_law_2349 (by decide) ?_
  refine mD_iadd C (pc := 2350) dL_law_2350 ?_
  replace hK := mm_bd hK; obtain ⟨v2351, e2351, hK⟩ := hK
  refine mD_sald C (pc := 2351) dL_law_2351 e2351 ?_
  refine mD_aload_n C (pc := 2352) 0 dL_law_2352 rfl ?_
  refine mD_iload C (pc := 2353) 4 dL_law_2353 rfl ?_
  refine mD_iconst C (pc := 2355) (v := (3 : Int32)) dL_law_2355 (by decide) ?_
  refine mD_iadd C (pc := 2356) dL_law_2356 ?_
  replace hK := mm_bd hK; obtain ⟨v2357, e2357, hK⟩ := hK
  refine mD_sald C (pc := 2357) dL_law_2357 e2357 ?_
  refine mD_i2l C (pc := 2358) dL_law_2358 ?_
  refine mD_bipush C (pc := 2359) (v := (32 : Int32)) dL_law_2359 (by decide) ?_
  refine mD_lshl C (pc := 2361) dL_law_2361 ?_
  refine mD_aload_n C (pc := 2362) 0 dL_law_2362 rfl ?_
  refine mD_iload C (pc := 2363) 4 dL_law_2363 rfl ?_
  refine mD_iconst C (pc := 2365) (v := (4 : Int32)) dL_law_2365 (by decide) ?_
  refine mD_iadd C (pc := 2366) dL_law_2366 ?_
  replace hK := mm_bd hK; obtain ⟨v2367, e2367, hK⟩ := hK
  refine mD_sald C (pc := 2367) dL_law_2367 e2367 ?_
  refine mD_i2l C (pc := 2368) dL_law_2368 ?_
  refine mD_ldc2 C (pc := 2369) (v := (4294967295 : Int64)) dL_law_2369 wd_2734 ?_
  refine mD_land C (pc := 2372) dL_law_2372 ?_
  refine mD_lor C (pc := 2373) dL_law_2373 ?_
  refine mD_aload_n C (pc := 2374) 3 dL_law_2374 rfl ?_
  replace hK := mm_b2s hK; obtain ⟨v2375, h2375, e2375, hK⟩ := hK
  refine mD_callSW C (pc := 2375) (d1 := 9) (As := [va_rf l1, .int v2345, .int v2351, .long (((v2357.toInt64) <<< ((32 : Int32).toInt64 &&& 63)) ||| ((v2367.toInt64) &&& (4294967295 : Int64))), va_rf l3]) (st := []) (vk := (some (.int v2375))) ((S_L_write (by omega)) e2375) tT_L_write wd_1930 wd_1931 (by omega) (by decide) rfl (by simp [mm_crf, mm_cti, mm_ctl]) rfl dL_law_2375 ?_
  show V _ _ (.int v2375 :: _) _
  refine mD_istore C (pc := 2378) (i := 5) (lv' := [(5, .int v2375), (0, va_rf l0), (1, va_rf l1), (2, va_rf l2), (3, va_rf l3), (4, .int l4)]) dL_law_2378 (by decide) rfl ?_
  refine mD_aload_n C (pc := 2380) 3 dL_law_2380 rfl ?_
  refine mD_aload_n C (pc := 2381) 1 dL_law_2381 rfl ?_
  refine mD_iload C (pc := 2382) 5 dL_law_2382 rfl ?_
  refine mD_iconst C (pc := 2384) (v := (1 : Int32)) dL_law_2384 (by decide) ?_
  refine mD_iadd C (pc := 2385) dL_law_2385 ?_
  replace hK := mm_bd hK; obtain ⟨v2386, e2386, hK⟩ := hK
  refine mD_sald C (pc := 2386) dL_law_2386 e2386 ?_
  refine mD_aload_n C (pc := 2387) 1 dL_law_2387 rfl ?_
  refine mD_iload C (pc := 2388) 5 dL_law_2388 rfl ?_
  refine mD_iconst C (pc := 2390) (v := (2 : Int32)) dL_law_2390 (by decide) ?_
  refine mD_iadd C (pc := 2391) dL_law_2391 ?_
  replace hK := mm_bd hK; obtain ⟨v2392, e2392, hK⟩ := hK
  refine mD_sald C (pc := 2392) dL_law_2392 e2392 ?_
  refine mD_aload_n C (pc := 2393) 1 dL_law_2393 rfl ?_
  refine mD_iload C (pc := 2394) 5 dL_law_2394 rfl ?_
  refine mD_iconst C (pc := 2396) (v := (3 : Int32)) dL_law_2396 (by decide) ?_
  refine mD_iadd C (pc := 2397) dL_law_2397 ?_
  replace hK := mm_bd hK; obtain ⟨v2398, e2398, hK⟩ := hK
  refine mD_sald C (pc := 2398) dL_law_2398 e2398 ?_
  refine mD_i2l C (pc := 2399) dL_law_2399 ?_
  refine mD_bipush C (pc := 2400) (v := (32 : Int32)) dL_law_2400 (by decide) ?_
  refine mD_lshl C (pc := 2402) dL_law_2402 ?_
  refine mD_aload_n C (pc := 2403) 1 dL_law_2403 rfl ?_
  refine mD_iload C (pc := 2404) 5 dL_law_2404 rfl ?_
  refine mD_iconst C (pc := 2406) (v := (4 : Int32)) dL_law_2406 (by decide) ?_
  refine mD_iadd C (pc := 2407) dL_law_2407 ?_
  replace hK := mm_bd hK; obtain ⟨v2408, e2408, hK⟩ := hK
  refine mD_sald C (pc := 2408) dL_law_2408 e2408 ?_
  refine mD_i2l C (pc := 2409) dL_law_2409 ?_
  refine mD_ldc2 C (pc := 2410) (v := (4294967295 : Int64)) dL_law_2410 wd_2734 ?_
  refine mD_land C (pc := 2413) dL_law_2413 ?_
  refine mD_lor C (pc := 2414) dL_law_2414 ?_
  replace hK := mm_b2s hK; obtain ⟨v2415, h2415, e2415, hK⟩ := hK
  obtain ⟨o2415, e2415⟩ := cV_some e2415
  refine mD_callV C (pc := 2415) (d1 := 4) (As := [.int v2386, .int v2392, .long (((v2398.toInt64) <<< ((32 : Int32).toInt64 &&& 63)) ||| ((v2408.toInt64) &&& (4294967295 : Int64)))]) (st := []) (vk := (some (.long v2415))) ((S_X12_write (by omega)) e2415) tT_X12_write o2415 (Or.inr ⟨_, rfl, rfl⟩) wd_2710 wd_2711 wd_2712 (by omega) (by decide) rfl (by simp [mm_crf, mm_cti, mm_ctl]) rfl dL_law_2415 ?_
  show V _ _ (.long v2415 :: _) _
  refine mD_lstore C (pc := 2418) (i := 6) (lv' := [(6, .long v2415), (5, .int v2375), (0, va_rf l0), (1, va_rf l1), (2, va_rf l2), (3, va_rf l3), (4, .int l4)]) dL_law_2418 (by decide) rfl ?_
  refine mD_aload_n C (pc := 2420) 4 dL_law_2420 rfl ?_
  replace hK := mm_b2s hK; obtain ⟨v2421, h2421, e2421, hK⟩ := hK
  obtain ⟨o2421, e2421⟩ := cV_some e2421
  refine mD_callV C (pc := 2421) (d1 := 1) (As := []) (st := []) (vk := (some (.int v2421))) ((S_X12_thrown (by omega)) e2421) tT_X12_thrown o2421 (Or.inr ⟨_, rfl, rfl⟩) wd_2145 wd_2146 wd_2147 (by omega) (by decide) rfl (by simp [mm_crf, mm_cti, mm_ctl]) rfl dL_law_2421 ?_
  show V _ _ (.int v2421 :: _) _
  refine mD_iload C (pc := 2424) 1 dL_law_2424 rfl ?_
  refine mD_icmp_eq C (pc := 2426) (tgt := 2431) dL_law_2426 (by decide) (fun hc => ?_) (fun hc => ?_)
  · replace hK := mm_ip hc hK
    refine mD_iload C (pc := 2431) 1 dL_law_2431 rfl ?_
    refine mD_if_ne C (pc := 2433) (tgt := 2447) dL_law_2433 (by decide) (fun hc => ?_) (fun hc => ?_)
    · replace hK := mm_in hc hK
      refine mD_sub C [2, 3, 4, 5, 6] rfl ?_
      exact w_L_law_2447 hd C (fun z0 z1 z2 z3 z4 z5 hK => q23 z0 z1 z2 z3 z4 z5 hK) _ _ _ _ _ _ hK
    · replace hK := mm_ip hc hK
      refine mD_aload_n C (pc := 2436) 5 dL_law_2436 rfl ?_
      refine mD_iconst C (pc := 2437) (v := (0 : Int32)) dL_law_2437 (by decide) ?_
      replace hK := mm_bd hK; obtain ⟨v2438, e2438, hK⟩ := hK
      refine mD_lald C (pc := 2438) dL_law_2438 e2438 ?_
      refine mD_lload C (pc := 2439) 0 dL_law_2439 rfl ?_
      refine mD_lcmp C (pc := 2441) dL_law_2441 ?_
      refine mD_if_eq C (pc := 2442) (tgt := 2447) dL_law_2442 (by decide) (fun hc => ?_) (fun hc => ?_)
      · replace hK := mm_ip hc hK
        refine mD_sub C [2, 3, 4, 5, 6] rfl ?_
        exact w_L_law_2447 hd C (fun z0 z1 z2 z3 z4 z5 hK => q23 z0 z1 z2 z3 z4 z5 hK) _ _ _ _ _ _ hK
      · replace hK := mm_in hc hK
        refine mD_iconst C (pc := 2445) (v := (0 : Int32)) dL_law_2445 (by decide) ?_
        replace hK := rZ_some hK; obtain ⟨hv2446, hK⟩ := hK
        cases hK
        exact mD_zret C (pc := 2446) rfl (mm_nrZ hv2446) dL_law_2446 rfl rfl
  · replace hK := mm_in hc hK
    refine mD_iconst C (pc := 2429) (v := (0 : Int32)) dL_law_2429 (by decide) ?_
    replace hK := rZ_some hK; obtain ⟨hv2430, hK⟩ := hK
    cases hK
    exact mD_zret C (pc := 2430) rfl (mm_nrZ hv2430) dL_law_2430 rfl rfl
def F_L_law_2503 (k23 : Option Nat → Option Nat → Option Nat → Option Nat → Int32 → MH → Option (Int32 × MH)) (l0 : Option Nat) (l1 : Option Nat) (l2 : Option Nat) (l3 : Option Nat) (l4 : Int32) (h : MH) : Option (Int32 × MH) := F_L_law_2603 k23 l0 l1 l2 l3 l4 h
set_option maxRecDepth 20000 in
set_option maxHeartbeats 4000000 in
theorem w_L_law_2503 {d : Nat} {V : Nat → List (Nat × Value) → List Value → MH → Prop} {r : Int32} {hz : MH} {k23 : Option Nat → Option Nat → Option Nat → Option Nat → Int32 → MH → Option (Int32 × MH)} (hd : 141 ≤ d) (C : mm_D [] d yL_law cL_law 8 (some .boolean) (.inr (some (.int r))) hz V) (q23 : ∀ (x0 : Option Nat) (x1 : Option Nat) (x2 : Option Nat) (x3 : Option Nat) (x4 : Int32) (h : MH), k23 x0 x1 x2 x3 x4 h = some (r, hz) → V 23 [(0, va_rf x0), (1, va_rf x1), (2, va_rf x2), (3, va_rf x3), (4, .int x4)] [] h) (l0 : Option Nat) (l1 : Option Nat) (l2 : Option Nat) (l3 : Option Nat) (l4 : Int32) (h : MH) (hK : F_L_law_2503 k23 l0 l1 l2 l3 l4 h = some (r, hz)) : V 2503 [(0, va_rf l0), (1, va_rf l1), (2, va_rf l2), (3, va_rf l3), (4, .int l4)] [] h := by
  unfold F_L_law_2503 at hK
  refine mD_goto C (pc := 2503) (tgt := 2603) dL_law_2503 (by decide) ?_
  exact w_L_law_2603 hd C (fun z0 z1 z2 z3 z4 z5 hK => q23 z0 z1 z2 z3 z4 z5 hK) _ _ _ _ _ _ hK
def F_L_law_2450 (k23 : Option Nat → Option Nat → Option Nat → Option Nat → Int32 → MH → Option (Int32 × MH)) (l0 : Option Nat) (l1 : Option Nat) (l2 : Option Nat) (l3 : Option Nat) (l4 : Int32) (h : MH) : Option (Int32 × MH) := (aS h l0 (l4 + (1 : Int32))).bind fun v2456 => mm_b2 (F_L_copy l1 v2456 l3 h) fun v2458 h2458 => (aS h2458 l0 (l4 + (1 : Int32))).bind fun v2469 => mm_b2 (cV h2458 l2 12 (F_X12_copy l2 v2469 h2458)) fun v2470 h2470 => mm_b2 (cV h2470 l2 12 (F_X12_thrown l2 h2470)) fun v2476 h2476 => if v2476 = v2458 then (if v2458 = 0 then ((aL h2476 l3 (0 : Int32)).bind fun v2493 => if (lg_cmp v2493 (v2470.toInt64)) = 0 then (F_L_law_2503 k23 l0 l1 l2 l3 l4 h2476) else (rZ (0 : Int32) h2476)) else (F_L_law_2503 k23 l0 l1 l2 l3 l4 h2476)) else (rZ (0 : Int32) h2476)
set_option maxRecDepth 20000 in
set_option maxHeartbeats 4000000 in
theorem w_L_law_2450 {d : Nat} {V : Nat → List (Nat × Value) → List Value → MH → Prop} {r : Int32} {hz : MH} {k23 : Option Nat → Option Nat → Option Nat → Option Nat → Int32 → MH → Option (Int32 × MH)} (hd : 141 ≤ d) (C : mm_D [] d yL_law cL_law 8 (some .boolean) (.inr (some (.int r))) hz V) (q23 : ∀ (x0 : Option Nat) (x1 : Option Nat) (x2 : Option Nat) (x3 : Option Nat) (x4 : Int32) (h : MH), k23 x0 x1 x2 x3 x4 h = some (r, hz) → V 23 [(0, va_rf x0), (1, va_rf x1), (2, va_rf x2), (3, va_rf x3), (4, .int x4)] [] h) (l0 : Option Nat) (l1 : Option Nat) (l2 : Option Nat) (l3 : Option Nat) (l4 : Int32) (h : MH) (hK : F_L_law_2450 k23 l0 l1 l2 l3 l4 h = some (r, hz)) : V 2450 [(0, va_rf l0), (1, va_rf l1), (2, va_rf l2), (3, va_rf l3), (4, .int l4)] [] h := by
  unfold F_L_law_2450 at hK
  refine mD_aload_n C (pc := 2450) 1 dL_law_2450 rfl ?_
  refine mD_aload_n C (pc := 2451) 0 dL_law_2451 rfl ?_
  refine mD_iload C (pc := 2452) 4 dL_law_2452 rfl ?_
  refine mD_iconst C (pc := 2454) (v := (1 : Int32)) dL_law_2454 (by decide) ?_
  refine mD_iadd C (pc := 2455) dL_law_2455 ?_
  replace hK := mm_bd hK; obtain ⟨v2456, e2456, hK⟩ := hK
  refine mD_sald C (pc := 2456) dL_law_2456 e2456 ?_
  refine mD_aload_n C (pc := 2457) 3 dL_law_2457 rfl ?_
  replace hK := mm_b2s hK; obtain ⟨v2458, h2458, e2458, hK⟩ := hK
  refine mD_callSW C (pc := 2458) (d1 := 9) (As := [va_rf l1, .int v2456, va_rf l3]) (st := []) (vk := (some (.int v2458))) ((S_L_copy (by omega)) e2458) tT_L_copy wd_1962 wd_1963 (by omega) (by decide) rfl (by simp [mm_crf, mm_cti, mm_ctl]) rfl dL_law_2458 ?_
  show V _ _ (.int v2458 :: _) _
  refine mD_istore C (pc := 2461) (i := 5) (lv' := [(5, .int v2458), (0, va_rf l0), (1, va_rf l1), (2, va_rf l2), (3, va_rf l3), (4, .int l4)]) dL_law_2461 (by decide) rfl ?_
  refine mD_aload_n C (pc := 2463) 3 dL_law_2463 rfl ?_
  refine mD_aload_n C (pc := 2464) 1 dL_law_2464 rfl ?_
  refine mD_iload C (pc := 2465) 5 dL_law_2465 rfl ?_
  refine mD_iconst C (pc := 2467) (v := (1 : Int32)) dL_law_2467 (by decide) ?_
  refine mD_iadd C (pc := 2468) dL_law_2468 ?_
  replace hK := mm_bd hK; obtain ⟨v2469, e2469, hK⟩ := hK
  refine mD_sald C (pc := 2469) dL_law_2469 e2469 ?_
  replace hK := mm_b2s hK; obtain ⟨v2470, h2470, e2470, hK⟩ := hK
  obtain ⟨o2470, e2470⟩ := cV_some e2470
  refine mD_callV C (pc := 2470) (d1 := 8) (As := [.int v2469]) (st := []) (vk := (some (.int v2470))) ((S_X12_copy (by omega)) e2470) tT_X12_copy o2470 (Or.inr ⟨_, rfl, rfl⟩) wd_2718 wd_2719 wd_2720 (by omega) (by decide) rfl (by simp [mm_crf, mm_cti, mm_ctl]) rfl dL_law_2470 ?_
  show V _ _ (.int v2470 :: _) _
  refine mD_istore C (pc := 2473) (i := 6) (lv' := [(6, .int v2470), (5, .int v2458), (0, va_rf l0), (1, va_rf l1), (2, va_rf l2), (3, va_rf l3), (4, .int l4)]) dL_law_2473 (by decide) rfl ?_
  refine mD_aload_n C (pc := 2475) 4 dL_law_2475 rfl ?_
  replace hK := mm_b2s hK; obtain ⟨v2476, h2476, e2476, hK⟩ := hK
  obtain ⟨o2476, e2476⟩ := cV_some e2476
  refine mD_callV C (pc := 2476) (d1 := 1) (As := []) (st := []) (vk := (some (.int v2476))) ((S_X12_thrown (by omega)) e2476) tT_X12_thrown o2476 (Or.inr ⟨_, rfl, rfl⟩) wd_2145 wd_2146 wd_2147 (by omega) (by decide) rfl (by simp [mm_crf, mm_cti, mm_ctl]) rfl dL_law_2476 ?_
  show V _ _ (.int v2476 :: _) _
  refine mD_iload C (pc := 2479) 1 dL_law_2479 rfl ?_
  refine mD_icmp_eq C (pc := 2481) (tgt := 2486) dL_law_2481 (by decide) (fun hc => ?_) (fun hc => ?_)
  · replace hK := mm_ip hc hK
    refine mD_iload C (pc := 2486) 1 dL_law_2486 rfl ?_
    refine mD_if_ne C (pc := 2488) (tgt := 2503) dL_law_2488 (by decide) (fun hc => ?_) (fun hc => ?_)
    · replace hK := mm_in hc hK
      refine mD_sub C [2, 3, 4, 5, 6] rfl ?_
      exact w_L_law_2503 hd C (fun z0 z1 z2 z3 z4 z5 hK => q23 z0 z1 z2 z3 z4 z5 hK) _ _ _ _ _ _ hK
    · replace hK := mm_ip hc hK
      refine mD_aload_n C (pc := 2491) 5 dL_law_2491 rfl ?_
      refine mD_iconst C (pc := 2492) (v := (0 : Int32)) dL_law_2492 (by decide) ?_
      replace hK := mm_bd hK; obtain ⟨v2493, e2493, hK⟩ := hK
      refine mD_lald C (pc := 2493) dL_law_2493 e2493 ?_
      refine mD_iload C (pc := 2494) 0 dL_law_2494 rfl ?_
      refine mD_i2l C (pc := 2496) dL_law_2496 ?_
      refine mD_lcmp C (pc := 2497) dL_law_2497 ?_
      refine mD_if_eq C (pc := 2498) (tgt := 2503) dL_law_2498 (by decide) (fun hc => ?_) (fun hc => ?_)
      · replace hK := mm_ip hc hK
        refine mD_sub C [2, 3, 4, 5, 6] rfl ?_
        exact w_L_law_2503 hd C (fun z0 z1 z2 z3 z4 z5 hK => q23 z0 z1 z2 z3 z4 z5 hK) _ _ _ _ _ _ hK
      · replace hK := mm_in hc hK
        refine mD_iconst C (pc := 2501) (v := (0 : Int32)) dL_law_2501 (by decide) ?_
        replace hK := rZ_some hK; obtain ⟨hv2502, hK⟩ := hK
        cases hK
        exact mD_zret C (pc := 2502) rfl (mm_nrZ hv2502) dL_law_2502 rfl rfl
  · replace hK := mm_in hc hK
    refine mD_iconst C (pc := 2484) (v := (0 : Int32)) dL_law_2484 (by decide) ?_
    replace hK := rZ_some hK; obtain ⟨hv2485, hK⟩ := hK
    cases hK
    exact mD_zret C (pc := 2485) rfl (mm_nrZ hv2485) dL_law_2485 rfl rfl
def F_L_law_2506 (k23 : Option Nat → Option Nat → Option Nat → Option Nat → Int32 → MH → Option (Int32 × MH)) (l0 : Option Nat) (l1 : Option Nat) (l2 : Option Nat) (l3 : Option Nat) (l4 : Int32) (h : MH) : Option (Int32 × MH) := (aS h l0 (l4 + (1 : Int32))).bind fun v2512 => mm_b2 (F_L_image l1 v2512 h) fun v2513 h2513 => (aS h2513 l0 (l4 + (1 : Int32))).bind fun v2524 => (cV h2513 l2 12 (F_X12_image l2 v2524 h2513)).bind fun h2525 => mm_b2 (cV h2525 l2 12 (F_X12_thrown l2 h2525)) fun v2529 h2529 => if v2529 = v2513 then (F_L_law_2603 k23 l0 l1 l2 l3 l4 h2529) else (rZ (0 : Int32) h2529)
set_option maxRecDepth 20000 in
set_option maxHeartbeats 4000000 in
theorem w_L_law_2506 {d : Nat} {V : Nat → List (Nat × Value) → List Value → MH → Prop} {r : Int32} {hz : MH} {k23 : Option Nat → Option Nat → Option Nat → Option Nat → Int32 → MH → Option (Int32 × MH)} (hd : 141 ≤ d) (C : mm_D [] d yL_law cL_law 8 (some .boolean) (.inr (some (.int r))) hz V) (q23 : ∀ (x0 : Option Nat) (x1 : Option Nat) (x2 : Option Nat) (x3 : Option Nat) (x4 : Int32) (h : MH), k23 x0 x1 x2 x3 x4 h = some (r, hz) → V 23 [(0, va_rf x0), (1, va_rf x1), (2, va_rf x2), (3, va_rf x3), (4, .int x4)] [] h) (l0 : Option Nat) (l1 : Option Nat) (l2 : Option Nat) (l3 : Option Nat) (l4 : Int32) (h : MH) (hK : F_L_law_2506 k23 l0 l1 l2 l3 l4 h = some (r, hz)) : V 2506 [(0, va_rf l0), (1, va_rf l1), (2, va_rf l2), (3, va_rf l3), (4, .int l4)] [] h := by
  unfold F_L_law_2506 at hK
  refine mD_aload_n C (pc := 2506) 1 dL_law_2506 rfl ?_
  refine mD_aload_n C (pc := 2507) 0 dL_law_2507 rfl ?_
  refine mD_iload C (pc := 2508) 4 dL_law_2508 rfl ?_
  refine mD_iconst C (pc := 2510) (v := (1 : Int32)) dL_law_2510 (by decide) ?_
  refine mD_iadd C (pc := 2511) dL_law_2511 ?_
  replace hK := mm_bd hK; obtain ⟨v2512, e2512, hK⟩ := hK
  refine mD_sald C (pc := 2512) dL_law_2512 e2512 ?_
  replace hK := mm_b2s hK; obtain ⟨v2513, h2513, e2513, hK⟩ := hK
  refine mD_callSW C (pc := 2513) (d1 := 8) (As := [va_rf l1, .int v2512]) (st := []) (vk := (some (.int v2513))) ((S_L_image (by omega)) e2513) tT_L_image wd_1969 wd_1970 (by omega) (by decide) rfl (by simp [mm_crf, mm_cti, mm_ctl]) rfl dL_law_2513 ?_
  show V _ _ (.int v2513 :: _) _
  refine mD_istore C (pc := 2516) (i := 5) (lv' := [(5, .int v2513), (0, va_rf l0), (1, va_rf l1), (2, va_rf l2), (3, va_rf l3), (4, .int l4)]) dL_law_2516 (by decide) rfl ?_
  refine mD_aload_n C (pc := 2518) 3 dL_law_2518 rfl ?_
  refine mD_aload_n C (pc := 2519) 1 dL_law_2519 rfl ?_
  refine mD_iload C (pc := 2520) 5 dL_law_2520 rfl ?_
  refine mD_iconst C (pc := 2522) (v := (1 : Int32)) dL_law_2522 (by decide) ?_
  refine mD_iadd C (pc := 2523) dL_law_2523 ?_
  replace hK := mm_bd hK; obtain ⟨v2524, e2524, hK⟩ := hK
  refine mD_sald C (pc := 2524) dL_law_2524 e2524 ?_
  replace hK := mm_bd hK; obtain ⟨h2525, e2525, hK⟩ := hK
  obtain ⟨o2525, e2525⟩ := cV_some e2525
  refine mD_callV C (pc := 2525) (d1 := 2) (As := [.int v2524]) (st := []) (vk := none) ((S_X12_image (by omega)) e2525) tT_X12_image o2525 (Or.inr ⟨_, rfl, rfl⟩) wd_2722 wd_2723 wd_2724 (by omega) (by decide) rfl (by simp [mm_crf, mm_cti, mm_ctl]) rfl dL_law_2525 ?_
  show V _ _ [] _
  refine mD_aload_n C (pc := 2528) 3 dL_law_2528 rfl ?_
  replace hK := mm_b2s hK; obtain ⟨v2529, h2529, e2529, hK⟩ := hK
  obtain ⟨o2529, e2529⟩ := cV_some e2529
  refine mD_callV C (pc := 2529) (d1 := 1) (As := []) (st := []) (vk := (some (.int v2529))) ((S_X12_thrown (by omega)) e2529) tT_X12_thrown o2529 (Or.inr ⟨_, rfl, rfl⟩) wd_2145 wd_2146 wd_2147 (by omega) (by decide) rfl (by simp [mm_crf, mm_cti, mm_ctl]) rfl dL_law_2529 ?_
  show V _ _ (.int v2529 :: _) _
  refine mD_iload C (pc := 2532) 0 dL_law_2532 rfl ?_
  refine mD_icmp_eq C (pc := 2534) (tgt := 2539) dL_law_2534 (by decide) (fun hc => ?_) (fun hc => ?_)
  · replace hK := mm_ip hc hK
    refine mD_goto C (pc := 2539) (tgt := 2603) dL_law_2539 (by decide) ?_
    refine mD_sub C [1, 2, 3, 4, 5] rfl ?_
    exact w_L_law_2603 hd C (fun z0 z1 z2 z3 z4 z5 hK => q23 z0 z1 z2 z3 z4 z5 hK) _ _ _ _ _ _ hK
  · replace hK := mm_in hc hK
    refine mD_iconst C (pc := 2537) (v := (0 : Int32)) dL_law_2537 (by decide) ?_
    replace hK := rZ_some hK; obtain ⟨hv2538, hK⟩ := hK
    cases hK
    exact mD_zret C (pc := 2538) rfl (mm_nrZ hv2538) dL_law_2538 rfl rfl
def F_L_law_2542 (k23 : Option Nat → Option Nat → Option Nat → Option Nat → Int32 → MH → Option (Int32 × MH)) (l0 : Option Nat) (l1 : Option Nat) (l2 : Option Nat) (l3 : Option Nat) (l4 : Int32) (h : MH) : Option (Int32 × MH) := (aS h l0 (l4 + (1 : Int32))).bind fun v2548 => mm_b2 (F_L_restore l1 v2548 h) fun v2549 h2549 => (aS h2549 l0 (l4 + (1 : Int32))).bind fun v2560 => (cV h2549 l2 12 (F_X12_restore l2 v2560 h2549)).bind fun h2561 => mm_b2 (cV h2561 l2 12 (F_X12_thrown l2 h2561)) fun v2565 h2565 => if v2565 = v2549 then (F_L_law_2603 k23 l0 l1 l2 l3 l4 h2565) else (rZ (0 : Int32) h2565)
set_option maxRecDepth 20000 in
set_option maxHeartbeats 4000000 in
theorem w_L_law_2542 {d : Nat} {V : Nat → List (Nat × Value) → List Value → MH → Prop} {r : Int32} {hz : MH} {k23 : Option Nat → Option Nat → Option Nat → Option Nat → Int32 → MH → Option (Int32 × MH)} (hd : 141 ≤ d) (C : mm_D [] d yL_law cL_law 8 (some .boolean) (.inr (some (.int r))) hz V) (q23 : ∀ (x0 : Option Nat) (x1 : Option Nat) (x2 : Option Nat) (x3 : Option Nat) (x4 : Int32) (h : MH), k23 x0 x1 x2 x3 x4 h = some (r, hz) → V 23 [(0, va_rf x0), (1, va_rf x1), (2, va_rf x2), (3, va_rf x3), (4, .int x4)] [] h) (l0 : Option Nat) (l1 : Option Nat) (l2 : Option Nat) (l3 : Option Nat) (l4 : Int32) (h : MH) (hK : F_L_law_2542 k23 l0 l1 l2 l3 l4 h = some (r, hz)) : V 2542 [(0, va_rf l0), (1, va_rf l1), (2, va_rf l2), (3, va_rf l3), (4, .int l4)] [] h := by
  unfold F_L_law_2542 at hK
  refine mD_aload_n C (pc := 2542) 1 dL_law_2542 rfl ?_
  refine mD_aload_n C (pc := 2543) 0 dL_law_2543 rfl ?_
  refine mD_iload C (pc := 2544) 4 dL_law_2544 rfl ?_
  refine mD_iconst C (pc := 2546) (v := (1 : Int32)) dL_law_2546 (by decide) ?_
  refine mD_iadd C (pc := 2547) dL_law_2547 ?_
  replace hK := mm_bd hK; obtain ⟨v2548, e2548, hK⟩ := hK
  refine mD_sald C (pc := 2548) dL_law_2548 e2548 ?_
  replace hK := mm_b2s hK; obtain ⟨v2549, h2549, e2549, hK⟩ := hK
  refine mD_callSW C (pc := 2549) (d1 := 8) (As := [va_rf l1, .int v2548]) (st := []) (vk := (some (.int v2549))) ((S_L_restore (by omega)) e2549) tT_L_restore wd_1985 wd_1986 (by omega) (by decide) rfl (by simp [mm_crf, mm_cti, mm_ctl]) rfl dL_law_2549 ?_
  show V _ _ (.int v2549 :: _) _
  refine mD_istore C (pc := 2552) (i := 5) (lv' := [(5, .int v2549), (0, va_rf l0), (1, va_rf l1), (2, va_rf l2), (3, va_rf l3), (4, .int l4)]) dL_law_2552 (by decide) rfl ?_
  refine mD_aload_n C (pc := 2554) 3 dL_law_2554 rfl ?_
  refine mD_aload_n C (pc := 2555) 1 dL_law_2555 rfl ?_
  refine mD_iload C (pc := 2556) 5 dL_law_2556 rfl ?_
  refine mD_iconst C (pc := 2558) (v := (1 : Int32)) dL_law_2558 (by decide) ?_
  refine mD_iadd C (pc := 2559) dL_law_2559 ?_
  replace hK := mm_bd hK; obtain ⟨v2560, e2560, hK⟩ := hK
  refine mD_sald C (pc := 2560) dL_law_2560 e2560 ?_
  replace hK := mm_bd hK; obtain ⟨h2561, e2561, hK⟩ := hK
  obtain ⟨o2561, e2561⟩ := cV_some e2561
  refine mD_callV C (pc := 2561) (d1 := 2) (As := [.int v2560]) (st := []) (vk := none) ((S_X12_restore (by omega)) e2561) tT_X12_restore o2561 (Or.inr ⟨_, rfl, rfl⟩) wd_2726 wd_2727 wd_2728 (by omega) (by decide) rfl (by simp [mm_crf, mm_cti, mm_ctl]) rfl dL_law_2561 ?_
  show V _ _ [] _
  refine mD_aload_n C (pc := 2564) 3 dL_law_2564 rfl ?_
  replace hK := mm_b2s hK; obtain ⟨v2565, h2565, e2565, hK⟩ := hK
  obtain ⟨o2565, e2565⟩ := cV_some e2565
  refine mD_callV C (pc := 2565) (d1 := 1) (As := []) (st := []) (vk := (some (.int v2565))) ((S_X12_thrown (by omega)) e2565) tT_X12_thrown o2565 (Or.inr ⟨_, rfl, rfl⟩) wd_2145 wd_2146 wd_2147 (by omega) (by decide) rfl (by simp [mm_crf, mm_cti, mm_ctl]) rfl dL_law_2565 ?_
  show V _ _ (.int v2565 :: _) _
  refine mD_iload C (pc := 2568) 0 dL_law_2568 rfl ?_
  refine mD_icmp_eq C (pc := 2570) (tgt := 2575) dL_law_2570 (by decide) (fun hc => ?_) (fun hc => ?_)
  · replace hK := mm_ip hc hK
    refine mD_goto C (pc := 2575) (tgt := 2603) dL_law_2575 (by decide) ?_
    refine mD_sub C [1, 2, 3, 4, 5] rfl ?_
    exact w_L_law_2603 hd C (fun z0 z1 z2 z3 z4 z5 hK => q23 z0 z1 z2 z3 z4 z5 hK) _ _ _ _ _ _ hK
  · replace hK := mm_in hc hK
    refine mD_iconst C (pc := 2573) (v := (0 : Int32)) dL_law_2573 (by decide) ?_
    replace hK := rZ_some hK; obtain ⟨hv2574, hK⟩ := hK
    cases hK
    exact mD_zret C (pc := 2574) rfl (mm_nrZ hv2574) dL_law_2574 rfl rfl
def F_L_law_2578 (k23 : Option Nat → Option Nat → Option Nat → Option Nat → Int32 → MH → Option (Int32 × MH)) (l0 : Option Nat) (l1 : Option Nat) (l2 : Option Nat) (l3 : Option Nat) (l4 : Int32) (h : MH) : Option (Int32 × MH) := (aS h l0 (l4 + (1 : Int32))).bind fun v2584 => mm_b2 (cV h l1 11 (F_X11_count l1 v2584 h)) fun v2585 h2585 => (aS h2585 l0 (l4 + (1 : Int32))).bind fun v2594 => mm_b2 (cV h2585 l2 12 (F_X12_count l2 v2594 h2585)) fun v2595 h2595 => if v2585 = v2595 then (F_L_law_2603 k23 l0 l1 l2 l3 l4 h2595) else (rZ (0 : Int32) h2595)
set_option maxRecDepth 20000 in
set_option maxHeartbeats 4000000 in
theorem w_L_law_2578 {d : Nat} {V : Nat → List (Nat × Value) → List Value → MH → Prop} {r : Int32} {hz : MH} {k23 : Option Nat → Option Nat → Option Nat → Option Nat → Int32 → MH → Option (Int32 × MH)} (hd : 141 ≤ d) (C : mm_D [] d yL_law cL_law 8 (some .boolean) (.inr (some (.int r))) hz V) (q23 : ∀ (x0 : Option Nat) (x1 : Option Nat) (x2 : Option Nat) (x3 : Option Nat) (x4 : Int32) (h : MH), k23 x0 x1 x2 x3 x4 h = some (r, hz) → V 23 [(0, va_rf x0), (1, va_rf x1), (2, va_rf x2), (3, va_rf x3), (4, .int x4)] [] h) (l0 : Option Nat) (l1 : Option Nat) (l2 : Option Nat) (l3 : Option Nat) (l4 : Int32) (h : MH) (hK : F_L_law_2578 k23 l0 l1 l2 l3 l4 h = some (r, hz)) : V 2578 [(0, va_rf l0), (1, va_rf l1), (2, va_rf l2), (3, va_rf l3), (4, .int l4)] [] h := by
  unfold F_L_law_2578 at hK
  refine mD_aload_n C (pc := 2578) 1 dL_law_2578 rfl ?_
  refine mD_aload_n C (pc := 2579) 0 dL_law_2579 rfl ?_
  refine mD_iload C (pc := 2580) 4 dL_law_2580 rfl ?_
  refine mD_iconst C (pc := 2582) (v := (1 : Int32)) dL_law_2582 (by decide) ?_
  refine mD_iadd C (pc := 2583) dL_law_2583 ?_
  replace hK := mm_bd hK; obtain ⟨v2584, e2584, hK⟩ := hK
  refine mD_sald C (pc := 2584) dL_law_2584 e2584 ?_
  replace hK := mm_b2s hK; obtain ⟨v2585, h2585, e2585, hK⟩ := hK
  obtain ⟨o2585, e2585⟩ := cV_some e2585
  refine mD_callV C (pc := 2585) (d1 := 4) (As := [.int v2584]) (st := []) (vk := (some (.int v2585))) ((S_X11_count (by omega)) e2585) tT_X11_count o2585 (Or.inr ⟨_, rfl, rfl⟩) wd_1133 wd_1134 wd_1135 (by omega) (by decide) rfl (by simp [mm_crf, mm_cti, mm_ctl]) rfl dL_law_2585 ?_
  show V _ _ (.int v2585 :: _) _
  refine mD_aload_n C (pc := 2588) 2 dL_law_2588 rfl ?_
  refine mD_aload_n C (pc := 2589) 0 dL_law_2589 rfl ?_
  refine mD_iload C (pc := 2590) 4 dL_law_2590 rfl ?_
  refine mD_iconst C (pc := 2592) (v := (1 : Int32)) dL_law_2592 (by decide) ?_
  refine mD_iadd C (pc := 2593) dL_law_2593 ?_
  replace hK := mm_bd hK; obtain ⟨v2594, e2594, hK⟩ := hK
  refine mD_sald C (pc := 2594) dL_law_2594 e2594 ?_
  replace hK := mm_b2s hK; obtain ⟨v2595, h2595, e2595, hK⟩ := hK
  obtain ⟨o2595, e2595⟩ := cV_some e2595
  refine mD_callV C (pc := 2595) (d1 := 3) (As := [.int v2594]) (st := [.int v2585]) (vk := (some (.int v2595))) ((S_X12_count (by omega)) e2595) tT_X12_count o2595 (Or.inr ⟨_, rfl, rfl⟩) wd_2730 wd_2731 wd_2732 (by omega) (by decide) rfl (by simp [mm_crf, mm_cti, mm_ctl]) rfl dL_law_2595 ?_
  show V _ _ (.int v2595 :: _) _
  refine mD_icmp_eq C (pc := 2598) (tgt := 2603) dL_law_2598 (by decide) (fun hc => ?_) (fun hc => ?_)
  · replace hK := mm_ip hc hK
    exact w_L_law_2603 hd C (fun z0 z1 z2 z3 z4 z5 hK => q23 z0 z1 z2 z3 z4 z5 hK) _ _ _ _ _ _ hK
  · replace hK := mm_in hc hK
    refine mD_iconst C (pc := 2601) (v := (0 : Int32)) dL_law_2601 (by decide) ?_
    replace hK := rZ_some hK; obtain ⟨hv2602, hK⟩ := hK
    cases hK
    exact mD_zret C (pc := 2602) rfl (mm_nrZ hv2602) dL_law_2602 rfl rfl
def F_L_law_23 : Nat → Option Nat → Option Nat → Option Nat → Option Nat → Int32 → MH → Option (Int32 × MH)
  | 0 => fun _ _ _ _ _ _ => none
  | n + 1 => fun l0 l1 l2 l3 l4 h => (aSN h l0).bind fun v26 => if (v26 - (6 : Int32)) < l4 then (rZ (1 : Int32) h) else ((aS h l0 l4).bind fun v36 => if (v36 &&& (63 : Int32)) = (0 : Int32) then (F_L_law_232 (F_L_law_23 n) l0 l1 l2 l3 l4 h) else if (v36 &&& (63 : Int32)) = (1 : Int32) then (F_L_law_305 (F_L_law_23 n) l0 l1 l2 l3 l4 h) else if (v36 &&& (63 : Int32)) = (2 : Int32) then (F_L_law_361 (F_L_law_23 n) l0 l1 l2 l3 l4 h) else if (v36 &&& (63 : Int32)) = (3 : Int32) then (F_L_law_386 (F_L_law_23 n) l0 l1 l2 l3 l4 h) else if (v36 &&& (63 : Int32)) = (4 : Int32) then (F_L_law_454 (F_L_law_23 n) l0 l1 l2 l3 l4 h) else if (v36 &&& (63 : Int32)) = (5 : Int32) then (F_L_law_522 (F_L_law_23 n) l0 l1 l2 l3 l4 h) else if (v36 &&& (63 : Int32)) = (6 : Int32) then (F_L_law_590 (F_L_law_23 n) l0 l1 l2 l3 l4 h) else if (v36 &&& (63 : Int32)) = (7 : Int32) then (F_L_law_658 (F_L_law_23 n) l0 l1 l2 l3 l4 h) else if (v36 &&& (63 : Int32)) = (8 : Int32) then (F_L_law_726 (F_L_law_23 n) l0 l1 l2 l3 l4 h) else if (v36 &&& (63 : Int32)) = (9 : Int32) then (F_L_law_775 (F_L_law_23 n) l0 l1 l2 l3 l4 h) else if (v36 &&& (63 : Int32)) = (10 : Int32) then (F_L_law_800 (F_L_law_23 n) l0 l1 l2 l3 l4 h) else if (v36 &&& (63 : Int32)) = (11 : Int32) then (F_L_law_856 (F_L_law_23 n) l0 l1 l2 l3 l4 h) else if (v36 &&& (63 : Int32)) = (12 : Int32) then (F_L_law_912 (F_L_law_23 n) l0 l1 l2 l3 l4 h) else if (v36 &&& (63 : Int32)) = (13 : Int32) then (F_L_law_968 (F_L_law_23 n) l0 l1 l2 l3 l4 h) else if (v36 &&& (63 : Int32)) = (14 : Int32) then (F_L_law_1036 (F_L_law_23 n) l0 l1 l2 l3 l4 h) else if (v36 &&& (63 : Int32)) = (15 : Int32) then (F_L_law_1092 (F_L_law_23 n) l0 l1 l2 l3 l4 h) else if (v36 &&& (63 : Int32)) = (16 : Int32) then (F_L_law_1160 (F_L_law_23 n) l0 l1 l2 l3 l4 h) else if (v36 &&& (63 : Int32)) = (17 : Int32) then (F_L_law_1216 (F_L_law_23 n) l0 l1 l2 l3 l4 h) else if (v36 &&& (63 : Int32)) = (18 : Int32) then (F_L_law_1229 (F_L_law_23 n) l0 l1 l2 l3 l4 h) else if (v36 &&& (63 : Int32)) = (19 : Int32) then (F_L_law_1297 (F_L_law_23 n) l0 l1 l2 l3 l4 h) else if (v36 &&& (63 : Int32)) = (20 : Int32) then (F_L_law_1353 (F_L_law_23 n) l0 l1 l2 l3 l4 h) else if (v36 &&& (63 : Int32)) = (21 : Int32) then (F_L_law_1409 (F_L_law_23 n) l0 l1 l2 l3 l4 h) else if (v36 &&& (63 : Int32)) = (22 : Int32) then (F_L_law_1465 (F_L_law_23 n) l0 l1 l2 l3 l4 h) else if (v36 &&& (63 : Int32)) = (23 : Int32) then (F_L_law_1521 (F_L_law_23 n) l0 l1 l2 l3 l4 h) else if (v36 &&& (63 : Int32)) = (24 : Int32) then (F_L_law_1577 (F_L_law_23 n) l0 l1 l2 l3 l4 h) else if (v36 &&& (63 : Int32)) = (25 : Int32) then (F_L_law_1590 (F_L_law_23 n) l0 l1 l2 l3 l4 h) else if (v36 &&& (63 : Int32)) = (26 : Int32) then (F_L_law_1653 (F_L_law_23 n) l0 l1 l2 l3 l4 h) else if (v36 &&& (63 : Int32)) = (27 : Int32) then (F_L_law_1721 (F_L_law_23 n) l0 l1 l2 l3 l4 h) else if (v36 &&& (63 : Int32)) = (28 : Int32) then (F_L_law_1777 (F_L_law_23 n) l0 l1 l2 l3 l4 h) else if (v36 &&& (63 : Int32)) = (29 : Int32) then (F_L_law_1790 (F_L_law_23 n) l0 l1 l2 l3 l4 h) else if (v36 &&& (63 : Int32)) = (30 : Int32) then (F_L_law_1846 (F_L_law_23 n) l0 l1 l2 l3 l4 h) else if (v36 &&& (63 : Int32)) = (31 : Int32) then (F_L_law_1859 (F_L_law_23 n) l0 l1 l2 l3 l4 h) else if (v36 &&& (63 : Int32)) = (32 : Int32) then (F_L_law_1872 (F_L_law_23 n) l0 l1 l2 l3 l4 h) else if (v36 &&& (63 : Int32)) = (33 : Int32) then (F_L_law_1928 (F_L_law_23 n) l0 l1 l2 l3 l4 h) else if (v36 &&& (63 : Int32)) = (34 : Int32) then (F_L_law_2019 (F_L_law_23 n) l0 l1 l2 l3 l4 h) else if (v36 &&& (63 : Int32)) = (35 : Int32) then (F_L_law_2099 (F_L_law_23 n) l0 l1 l2 l3 l4 h) else if (v36 &&& (63 : Int32)) = (36 : Int32) then (F_L_law_2155 (F_L_law_23 n) l0 l1 l2 l3 l4 h) else if (v36 &&& (63 : Int32)) = (37 : Int32) then (F_L_law_2223 (F_L_law_23 n) l0 l1 l2 l3 l4 h) else if (v36 &&& (63 : Int32)) = (38 : Int32) then (F_L_law_2279 (F_L_law_23 n) l0 l1 l2 l3 l4 h) else if (v36 &&& (63 : Int32)) = (39 : Int32) then (F_L_law_2339 (F_L_law_23 n) l0 l1 l2 l3 l4 h) else if (v36 &&& (63 : Int32)) = (40 : Int32) then (F_L_law_2450 (F_L_law_23 n) l0 l1 l2 l3 l4 h) else if (v36 &&& (63 : Int32)) = (41 : Int32) then (F_L_law_2506 (F_L_law_23 n) l0 l1 l2 l3 l4 h) else if (v36 &&& (63 : Int32)) = (42 : Int32) then (F_L_law_2542 (F_L_law_23 n) l0 l1 l2 l3 l4 h) else if (v36 &&& (63 : Int32)) = (43 : Int32) then (F_L_law_2578 (F_L_law_23 n) l0 l1 l2 l3 l4 h) else (F_L_law_2603 (F_L_law_23 n) l0 l1 l2 l3 l4 h))
set_option maxRecDepth 20000 in
set_option maxHeartbeats 4000000 in
theorem w_L_law_23 {d : Nat} {V : Nat → List (Nat × Value) → List Value → MH → Prop} {r : Int32} {hz : MH} (hd : 141 ≤ d) (C : mm_D [] d yL_law cL_law 8 (some .boolean) (.inr (some (.int r))) hz V) : ∀ (n : Nat) (l0 : Option Nat) (l1 : Option Nat) (l2 : Option Nat) (l3 : Option Nat) (l4 : Int32) (h : MH), F_L_law_23 n l0 l1 l2 l3 l4 h = some (r, hz) → V 23 [(0, va_rf l0), (1, va_rf l1), (2, va_rf l2), (3, va_rf l3), (4, .int l4)] [] h := by
  intro n
  induction n with
  | zero => intro l0 l1 l2 l3 l4 h hK; cases hK
  | succ n ih =>
    intro l0 l1 l2 l3 l4 h hK
    replace hK : ((aSN h l0).bind fun v26 => if (v26 - (6 : Int32)) < l4 then (rZ (1 : Int32) h) else ((aS h l0 l4).bind fun v36 => if (v36 &&& (63 : Int32)) = (0 : Int32) then (F_L_law_232 (F_L_law_23 n) l0 l1 l2 l3 l4 h) else if (v36 &&& (63 : Int32)) = (1 : Int32) then (F_L_law_305 (F_L_law_23 n) l0 l1 l2 l3 l4 h) else if (v36 &&& (63 : Int32)) = (2 : Int32) then (F_L_law_361 (F_L_law_23 n) l0 l1 l2 l3 l4 h) else if (v36 &&& (63 : Int32)) = (3 : Int32) then (F_L_law_386 (F_L_law_23 n) l0 l1 l2 l3 l4 h) else if (v36 &&& (63 : Int32)) = (4 : Int32) then (F_L_law_454 (F_L_law_23 n) l0 l1 l2 l3 l4 h) else if (v36 &&& (63 : Int32)) = (5 : Int32) then (F_L_law_522 (F_L_law_23 n) l0 l1 l2 l3 l4 h) else if (v36 &&& (63 : Int32)) = (6 : Int32) then (F_L_law_590 (F_L_law_23 n) l0 l1 l2 l3 l4 h) else if (v36 &&& (63 : Int32)) = (7 : Int32) then (F_L_law_658 (F_L_law_23 n) l0 l1 l2 l3 l4 h) else if (v36 &&& (63 : Int32)) = (8 : Int32) then (F_L_law_726 (F_L_law_23 n) l0 l1 l2 l3 l4 h) else if (v36 &&& (63 : Int32)) = (9 : Int32) then (F_L_law_775 (F_L_law_23 n) l0 l1 l2 l3 l4 h) else if (v36 &&& (63 : Int32)) = (10 : Int32) then (F_L_law_800 (F_L_law_23 n) l0 l1 l2 l3 l4 h) else if (v36 &&& (63 : Int32)) = (11 : Int32) then (F_L_law_856 (F_L_law_23 n) l0 l1 l2 l3 l4 h) else if (v36 &&& (63 : Int32)) = (12 : Int32) then (F_L_law_912 (F_L_law_23 n) l0 l1 l2 l3 l4 h) else if (v36 &&& (63 : Int32)) = (13 : Int32) then (F_L_law_968 (F_L_law_23 n) l0 l1 l2 l3 l4 h) else if (v36 &&& (63 : Int32)) = (14 : Int32) then (F_L_law_1036 (F_L_law_23 n) l0 l1 l2 l3 l4 h) else if (v36 &&& (63 : Int32)) = (15 : Int32) then (F_L_law_1092 (F_L_law_23 n) l0 l1 l2 l3 l4 h) else if (v36 &&& (63 : Int32)) = (16 : Int32) then (F_L_law_1160 (F_L_law_23 n) l0 l1 l2 l3 l4 h) else if (v36 &&& (63 : Int32)) = (17 : Int32) then (F_L_law_1216 (F_L_law_23 n) l0 l1 l2 l3 l4 h) else if (v36 &&& (63 : Int32)) = (18 : Int32) then (F_L_law_1229 (F_L_law_23 n) l0 l1 l2 l3 l4 h) else if (v36 &&& (63 : Int32)) = (19 : Int32) then (F_L_law_1297 (F_L_law_23 n) l0 l1 l2 l3 l4 h) else if (v36 &&& (63 : Int32)) = (20 : Int32) then (F_L_law_1353 (F_L_law_23 n) l0 l1 l2 l3 l4 h) else if (v36 &&& (63 : Int32)) = (21 : Int32) then (F_L_law_1409 (F_L_law_23 n) l0 l1 l2 l3 l4 h) else if (v36 &&& (63 : Int32)) = (22 : Int32) then (F_L_law_1465 (F_L_law_23 n) l0 l1 l2 l3 l4 h) else if (v36 &&& (63 : Int32)) = (23 : Int32) then (F_L_law_1521 (F_L_law_23 n) l0 l1 l2 l3 l4 h) else if (v36 &&& (63 : Int32)) = (24 : Int32) then (F_L_law_1577 (F_L_law_23 n) l0 l1 l2 l3 l4 h) else if (v36 &&& (63 : Int32)) = (25 : Int32) then (F_L_law_1590 (F_L_law_23 n) l0 l1 l2 l3 l4 h) else if (v36 &&& (63 : Int32)) = (26 : Int32) then (F_L_law_1653 (F_L_law_23 n) l0 l1 l2 l3 l4 h) else if (v36 &&& (63 : Int32)) = (27 : Int32) then (F_L_law_1721 (F_L_law_23 n) l0 l1 l2 l3 l4 h) else if (v36 &&& (63 : Int32)) = (28 : Int32) then (F_L_law_1777 (F_L_law_23 n) l0 l1 l2 l3 l4 h) else if (v36 &&& (63 : Int32)) = (29 : Int32) then (F_L_law_1790 (F_L_law_23 n) l0 l1 l2 l3 l4 h) else if (v36 &&& (63 : Int32)) = (30 : Int32) then (F_L_law_1846 (F_L_law_23 n) l0 l1 l2 l3 l4 h) else if (v36 &&& (63 : Int32)) = (31 : Int32) then (F_L_law_1859 (F_L_law_23 n) l0 l1 l2 l3 l4 h) else if (v36 &&& (63 : Int32)) = (32 : Int32) then (F_L_law_1872 (F_L_law_23 n) l0 l1 l2 l3 l4 h) else if (v36 &&& (63 : Int32)) = (33 : Int32) then (F_L_law_1928 (F_L_law_23 n) l0 l1 l2 l3 l4 h) else if (v36 &&& (63 : Int32)) = (34 : Int32) then (F_L_law_2019 (F_L_law_23 n) l0 l1 l2 l3 l4 h) else if (v36 &&& (63 : Int32)) = (35 : Int32) then (F_L_law_2099 (F_L_law_23 n) l0 l1 l2 l3 l4 h) else if (v36 &&& (63 : Int32)) = (36 : Int32) then (F_L_law_2155 (F_L_law_23 n) l0 l1 l2 l3 l4 h) else if (v36 &&& (63 : Int32)) = (37 : Int32) then (F_L_law_2223 (F_L_law_23 n) l0 l1 l2 l3 l4 h) else if (v36 &&& (63 : Int32)) = (38 : Int32) then (F_L_law_2279 (F_L_law_23 n) l0 l1 l2 l3 l4 h) else if (v36 &&& (63 : Int32)) = (39 : Int32) then (F_L_law_2339 (F_L_law_23 n) l0 l1 l2 l3 l4 h) else if (v36 &&& (63 : Int32)) = (40 : Int32) then (F_L_law_2450 (F_L_law_23 n) l0 l1 l2 l3 l4 h) else if (v36 &&& (63 : Int32)) = (41 : Int32) then (F_L_law_2506 (F_L_law_23 n) l0 l1 l2 l3 l4 h) else if (v36 &&& (63 : Int32)) = (42 : Int32) then (F_L_law_2542 (F_L_law_23 n) l0 l1 l2 l3 l4 h) else if (v36 &&& (63 : Int32)) = (43 : Int32) then (F_L_law_2578 (F_L_law_23 n) l0 l1 l2 l3 l4 h) else (F_L_law_2603 (F_L_law_23 n) l0 l1 l2 l3 l4 h))) = some (r, hz) := hK
    refine mD_iload C (pc := 23) 4 dL_law_23 rfl ?_
    refine mD_aload_n C (pc := 25) 0 dL_law_25 rfl ?_
    replace hK := mm_bd hK; obtain ⟨v26, e26, hK⟩ := hK
    refine mD_slen C (pc := 26) dL_law_26 e26 ?_
    refine mD_bipush C (pc := 27) (v := (6 : Int32)) dL_law_27 (by decide) ?_
    refine mD_isub C (pc := 29) dL_law_29 ?_
    refine mD_icmp_gt C (pc := 30) (tgt := 2609) dL_law_30 (by decide) (fun hc => ?_) (fun hc => ?_)
    · replace hK := mm_ip hc hK
      refine mD_iconst C (pc := 2609) (v := (1 : Int32)) dL_law_2609 (by decide) ?_
      replace hK := rZ_some hK; obtain ⟨hv2610, hK⟩ := hK
      cases hK
      exact mD_zret C (pc := 2610) rfl (mm_nrZ hv2610) dL_law_2610 rfl rfl
    · replace hK := mm_in hc hK
      refine mD_aload_n C (pc := 33) 0 dL_law_33 rfl ?_
      refine mD_iload C (pc := 34) 4 dL_law_34 rfl ?_
      replace hK := mm_bd hK; obtain ⟨v36, e36, hK⟩ := hK
      refine mD_sald C (pc := 36) dL_law_36 e36 ?_
      refine mD_bipush C (pc := 37) (v := (63 : Int32)) dL_law_37 (by decide) ?_
      refine mD_iand C (pc := 39) dL_law_39 ?_
      by_cases hc40_0 : (v36 &&& (63 : Int32)) = (0 : Int32)
      · replace hK := mm_ip hc40_0 hK
        refine mD_tableIn C (pc := 40) (tgt := 232) (off := 192) dL_law_40 (by rw [hc40_0]; decide) (by rw [hc40_0]; decide) (by rw [hc40_0]; rfl) (by decide) ?_
        exact w_L_law_232 hd C (fun z0 z1 z2 z3 z4 z5 hK => ih z0 z1 z2 z3 z4 z5 hK) _ _ _ _ _ _ hK
      replace hK := mm_in hc40_0 hK
      by_cases hc40_1 : (v36 &&& (63 : Int32)) = (1 : Int32)
      · replace hK := mm_ip hc40_1 hK
        refine mD_tableIn C (pc := 40) (tgt := 305) (off := 265) dL_law_40 (by rw [hc40_1]; decide) (by rw [hc40_1]; decide) (by rw [hc40_1]; rfl) (by decide) ?_
        exact w_L_law_305 hd C (fun z0 z1 z2 z3 z4 z5 hK => ih z0 z1 z2 z3 z4 z5 hK) _ _ _ _ _ _ hK
      replace hK := mm_in hc40_1 hK
      by_cases hc40_2 : (v36 &&& (63 : Int32)) = (2 : Int32)
      · replace hK := mm_ip hc40_2 hK
        refine mD_tableIn C (pc := 40) (tgt := 361) (off := 321) dL_law_40 (by rw [hc40_2]; decide) (by rw [hc40_2]; decide) (by rw [hc40_2]; rfl) (by decide) ?_
        exact w_L_law_361 hd C (fun z0 z1 z2 z3 z4 z5 hK => ih z0 z1 z2 z3 z4 z5 hK) _ _ _ _ _ _ hK
      replace hK := mm_in hc40_2 hK
      by_cases hc40_3 : (v36 &&& (63 : Int32)) = (3 : Int32)
      · replace hK := mm_ip hc40_3 hK
        refine mD_tableIn C (pc := 40) (tgt := 386) (off := 346) dL_law_40 (by rw [hc40_3]; decide) (by rw [hc40_3]; decide) (by rw [hc40_3]; rfl) (by decide) ?_
        exact w_L_law_386 hd C (fun z0 z1 z2 z3 z4 z5 hK => ih z0 z1 z2 z3 z4 z5 hK) _ _ _ _ _ _ hK
      replace hK := mm_in hc40_3 hK
      by_cases hc40_4 : (v36 &&& (63 : Int32)) = (4 : Int32)
      · replace hK := mm_ip hc40_4 hK
        refine mD_tableIn C (pc := 40) (tgt := 454) (off := 414) dL_law_40 (by rw [hc40_4]; decide) (by rw [hc40_4]; decide) (by rw [hc40_4]; rfl) (by decide) ?_
        exact w_L_law_454 hd C (fun z0 z1 z2 z3 z4 z5 hK => ih z0 z1 z2 z3 z4 z5 hK) _ _ _ _ _ _ hK
      replace hK := mm_in hc40_4 hK
      by_cases hc40_5 : (v36 &&& (63 : Int32)) = (5 : Int32)
      · replace hK := mm_ip hc40_5 hK
        refine mD_tableIn C (pc := 40) (tgt := 522) (off := 482) dL_law_40 (by rw [hc40_5]; decide) (by rw [hc40_5]; decide) (by rw [hc40_5]; rfl) (by decide) ?_
        exact w_L_law_522 hd C (fun z0 z1 z2 z3 z4 z5 hK => ih z0 z1 z2 z3 z4 z5 hK) _ _ _ _ _ _ hK
      replace hK := mm_in hc40_5 hK
      by_cases hc40_6 : (v36 &&& (63 : Int32)) = (6 : Int32)
      · replace hK := mm_ip hc40_6 hK
        refine mD_tableIn C (pc := 40) (tgt := 590) (off := 550) dL_law_40 (by rw [hc40_6]; decide) (by rw [hc40_6]; decide) (by rw [hc40_6]; rfl) (by decide) ?_
        exact w_L_law_590 hd C (fun z0 z1 z2 z3 z4 z5 hK => ih z0 z1 z2 z3 z4 z5 hK) _ _ _ _ _ _ hK
      replace hK := mm_in hc40_6 hK
      by_cases hc40_7 : (v36 &&& (63 : Int32)) = (7 : Int32)
      · replace hK := mm_ip hc40_7 hK
        refine mD_tableIn C (pc := 40) (tgt := 658) (off := 618) dL_law_40 (by rw [hc40_7]; decide) (by rw [hc40_7]; decide) (by rw [hc40_7]; rfl) (by decide) ?_
        exact w_L_law_658 hd C (fun z0 z1 z2 z3 z4 z5 hK => ih z0 z1 z2 z3 z4 z5 hK) _ _ _ _ _ _ hK
      replace hK := mm_in hc40_7 hK
      by_cases hc40_8 : (v36 &&& (63 : Int32)) = (8 : Int32)
      · replace hK := mm_ip hc40_8 hK
        refine mD_tableIn C (pc := 40) (tgt := 726) (off := 686) dL_law_40 (by rw [hc40_8]; decide) (by rw [hc40_8]; decide) (by rw [hc40_8]; rfl) (by decide) ?_
        exact w_L_law_726 hd C (fun z0 z1 z2 z3 z4 z5 hK => ih z0 z1 z2 z3 z4 z5 hK) _ _ _ _ _ _ hK
      replace hK := mm_in hc40_8 hK
      by_cases hc40_9 : (v36 &&& (63 : Int32)) = (9 : Int32)
      · replace hK := mm_ip hc40_9 hK
        refine mD_tableIn C (pc := 40) (tgt := 775) (off := 735) dL_law_40 (by rw [hc40_9]; decide) (by rw [hc40_9]; decide) (by rw [hc40_9]; rfl) (by decide) ?_
        exact w_L_law_775 hd C (fun z0 z1 z2 z3 z4 z5 hK => ih z0 z1 z2 z3 z4 z5 hK) _ _ _ _ _ _ hK
      replace hK := mm_in hc40_9 hK
      by_cases hc40_10 : (v36 &&& (63 : Int32)) = (10 : Int32)
      · replace hK := mm_ip hc40_10 hK
        refine mD_tableIn C (pc := 40) (tgt := 800) (off := 760) dL_law_40 (by rw [hc40_10]; decide) (by rw [hc40_10]; decide) (by rw [hc40_10]; rfl) (by decide) ?_
        exact w_L_law_800 hd C (fun z0 z1 z2 z3 z4 z5 hK => ih z0 z1 z2 z3 z4 z5 hK) _ _ _ _ _ _ hK
      replace hK := mm_in hc40_10 hK
      by_cases hc40_11 : (v36 &&& (63 : Int32)) = (11 : Int32)
      · replace hK := mm_ip hc40_11 hK
        refine mD_tableIn C (pc := 40) (tgt := 856) (off := 816) dL_law_40 (by rw [hc40_11]; decide) (by rw [hc40_11]; decide) (by rw [hc40_11]; rfl) (by decide) ?_
        exact w_L_law_856 hd C (fun z0 z1 z2 z3 z4 z5 hK => ih z0 z1 z2 z3 z4 z5 hK) _ _ _ _ _ _ hK
      replace hK := mm_in hc40_11 hK
      by_cases hc40_12 : (v36 &&& (63 : Int32)) = (12 : Int32)
      · replace hK := mm_ip hc40_12 hK
        refine mD_tableIn C (pc := 40) (tgt := 912) (off := 872) dL_law_40 (by rw [hc40_12]; decide) (by rw [hc40_12]; decide) (by rw [hc40_12]; rfl) (by decide) ?_
        exact w_L_law_912 hd C (fun z0 z1 z2 z3 z4 z5 hK => ih z0 z1 z2 z3 z4 z5 hK) _ _ _ _ _ _ hK
      replace hK := mm_in hc40_12 hK
      by_cases hc40_13 : (v36 &&& (63 : Int32)) = (13 : Int32)
      · replace hK := mm_ip hc40_13 hK
        refine mD_tableIn C (pc := 40) (tgt := 968) (off := 928) dL_law_40 (by rw [hc40_13]; decide) (by rw [hc40_13]; decide) (by rw [hc40_13]; rfl) (by decide) ?_
        exact w_L_law_968 hd C (fun z0 z1 z2 z3 z4 z5 hK => ih z0 z1 z2 z3 z4 z5 hK) _ _ _ _ _ _ hK
      replace hK := mm_in hc40_13 hK
      by_cases hc40_14 : (v36 &&& (63 : Int32)) = (14 : Int32)
      · replace hK := mm_ip hc40_14 hK
        refine mD_tableIn C (pc := 40) (tgt := 1036) (off := 996) dL_law_40 (by rw [hc40_14]; decide) (by rw [hc40_14]; decide) (by rw [hc40_14]; rfl) (by decide) ?_
        exact w_L_law_1036 hd C (fun z0 z1 z2 z3 z4 z5 hK => ih z0 z1 z2 z3 z4 z5 hK) _ _ _ _ _ _ hK
      replace hK := mm_in hc40_14 hK
      by_cases hc40_15 : (v36 &&& (63 : Int32)) = (15 : Int32)
      · replace hK := mm_ip hc40_15 hK
        refine mD_tableIn C (pc := 40) (tgt := 1092) (off := 1052) dL_law_40 (by rw [hc40_15]; decide) (by rw [hc40_15]; decide) (by rw [hc40_15]; rfl) (by decide) ?_
        exact w_L_law_1092 hd C (fun z0 z1 z2 z3 z4 z5 hK => ih z0 z1 z2 z3 z4 z5 hK) _ _ _ _ _ _ hK
      replace hK := mm_in hc40_15 hK
      by_cases hc40_16 : (v36 &&& (63 : Int32)) = (16 : Int32)
      · replace hK := mm_ip hc40_16 hK
        refine mD_tableIn C (pc := 40) (tgt := 1160) (off := 1120) dL_law_40 (by rw [hc40_16]; decide) (by rw [hc40_16]; decide) (by rw [hc40_16]; rfl) (by decide) ?_
        exact w_L_law_1160 hd C (fun z0 z1 z2 z3 z4 z5 hK => ih z0 z1 z2 z3 z4 z5 hK) _ _ _ _ _ _ hK
      replace hK := mm_in hc40_16 hK
      by_cases hc40_17 : (v36 &&& (63 : Int32)) = (17 : Int32)
      · replace hK := mm_ip hc40_17 hK
        refine mD_tableIn C (pc := 40) (tgt := 1216) (off := 1176) dL_law_40 (by rw [hc40_17]; decide) (by rw [hc40_17]; decide) (by rw [hc40_17]; rfl) (by decide) ?_
        exact w_L_law_1216 hd C (fun z0 z1 z2 z3 z4 z5 hK => ih z0 z1 z2 z3 z4 z5 hK) _ _ _ _ _ _ hK
      replace hK := mm_in hc40_17 hK
      by_cases hc40_18 : (v36 &&& (63 : Int32)) = (18 : Int32)
      · replace hK := mm_ip hc40_18 hK
        refine mD_tableIn C (pc := 40) (tgt := 1229) (off := 1189) dL_law_40 (by rw [hc40_18]; decide) (by rw [hc40_18]; decide) (by rw [hc40_18]; rfl) (by decide) ?_
        exact w_L_law_1229 hd C (fun z0 z1 z2 z3 z4 z5 hK => ih z0 z1 z2 z3 z4 z5 hK) _ _ _ _ _ _ hK
      replace hK := mm_in hc40_18 hK
      by_cases hc40_19 : (v36 &&& (63 : Int32)) = (19 : Int32)
      · replace hK := mm_ip hc40_19 hK
        refine mD_tableIn C (pc := 40) (tgt := 1297) (off := 1257) dL_law_40 (by rw [hc40_19]; decide) (by rw [hc40_19]; decide) (by rw [hc40_19]; rfl) (by decide) ?_
        exact w_L_law_1297 hd C (fun z0 z1 z2 z3 z4 z5 hK => ih z0 z1 z2 z3 z4 z5 hK) _ _ _ _ _ _ hK
      replace hK := mm_in hc40_19 hK
      by_cases hc40_20 : (v36 &&& (63 : Int32)) = (20 : Int32)
      · replace hK := mm_ip hc40_20 hK
        refine mD_tableIn C (pc := 40) (tgt := 1353) (off := 1313) dL_law_40 (by rw [hc40_20]; decide) (by rw [hc40_20]; decide) (by rw [hc40_20]; rfl) (by decide) ?_
        exact w_L_law_1353 hd C (fun z0 z1 z2 z3 z4 z5 hK => ih z0 z1 z2 z3 z4 z5 hK) _ _ _ _ _ _ hK
      replace hK := mm_in hc40_20 hK
      by_cases hc40_21 : (v36 &&& (63 : Int32)) = (21 : Int32)
      · replace hK := mm_ip hc40_21 hK
        refine mD_tableIn C (pc := 40) (tgt := 1409) (off := 1369) dL_law_40 (by rw [hc40_21]; decide) (by rw [hc40_21]; decide) (by rw [hc40_21]; rfl) (by decide) ?_
        exact w_L_law_1409 hd C (fun z0 z1 z2 z3 z4 z5 hK => ih z0 z1 z2 z3 z4 z5 hK) _ _ _ _ _ _ hK
      replace hK := mm_in hc40_21 hK
      by_cases hc40_22 : (v36 &&& (63 : Int32)) = (22 : Int32)
      · replace hK := mm_ip hc40_22 hK
        refine mD_tableIn C (pc := 40) (tgt := 1465) (off := 1425) dL_law_40 (by rw [hc40_22]; decide) (by rw [hc40_22]; decide) (by rw [hc40_22]; rfl) (by decide) ?_
        exact w_L_law_1465 hd C (fun z0 z1 z2 z3 z4 z5 hK => ih z0 z1 z2 z3 z4 z5 hK) _ _ _ _ _ _ hK
      replace hK := mm_in hc40_22 hK
      by_cases hc40_23 : (v36 &&& (63 : Int32)) = (23 : Int32)
      · replace hK := mm_ip hc40_23 hK
        refine mD_tableIn C (pc := 40) (tgt := 1521) (off := 1481) dL_law_40 (by rw [hc40_23]; decide) (by rw [hc40_23]; decide) (by rw [hc40_23]; rfl) (by decide) ?_
        exact w_L_law_1521 hd C (fun z0 z1 z2 z3 z4 z5 hK => ih z0 z1 z2 z3 z4 z5 hK) _ _ _ _ _ _ hK
      replace hK := mm_in hc40_23 hK
      by_cases hc40_24 : (v36 &&& (63 : Int32)) = (24 : Int32)
      · replace hK := mm_ip hc40_24 hK
        refine mD_tableIn C (pc := 40) (tgt := 1577) (off := 1537) dL_law_40 (by rw [hc40_24]; decide) (by rw [hc40_24]; decide) (by rw [hc40_24]; rfl) (by decide) ?_
        exact w_L_law_1577 hd C (fun z0 z1 z2 z3 z4 z5 hK => ih z0 z1 z2 z3 z4 z5 hK) _ _ _ _ _ _ hK
      replace hK := mm_in hc40_24 hK
      by_cases hc40_25 : (v36 &&& (63 : Int32)) = (25 : Int32)
      · replace hK := mm_ip hc40_25 hK
        refine mD_tableIn C (pc := 40) (tgt := 1590) (off := 1550) dL_law_40 (by rw [hc40_25]; decide) (by rw [hc40_25]; decide) (by rw [hc40_25]; rfl) (by decide) ?_
        exact w_L_law_1590 hd C (fun z0 z1 z2 z3 z4 z5 hK => ih z0 z1 z2 z3 z4 z5 hK) _ _ _ _ _ _ hK
      replace hK := mm_in hc40_25 hK
      by_cases hc40_26 : (v36 &&& (63 : Int32)) = (26 : Int32)
      · replace hK := mm_ip hc40_26 hK
        refine mD_tableIn C (pc := 40) (tgt := 1653) (off := 1613) dL_law_40 (by rw [hc40_26]; decide) (by rw [hc40_26]; decide) (by rw [hc40_26]; rfl) (by decide) ?_
        exact w_L_law_1653 hd C (fun z0 z1 z2 z3 z4 z5 hK => ih z0 z1 z2 z3 z4 z5 hK) _ _ _ _ _ _ hK
      replace hK := mm_in hc40_26 hK
      by_cases hc40_27 : (v36 &&& (63 : Int32)) = (27 : Int32)
      · replace hK := mm_ip hc40_27 hK
        refine mD_tableIn C (pc := 40) (tgt := 1721) (off := 1681) dL_law_40 (by rw [hc40_27]; decide) (by rw [hc40_27]; decide) (by rw [hc40_27]; rfl) (by decide) ?_
        exact w_L_law_1721 hd C (fun z0 z1 z2 z3 z4 z5 hK => ih z0 z1 z2 z3 z4 z5 hK) _ _ _ _ _ _ hK
      replace hK := mm_in hc40_27 hK
      by_cases hc40_28 : (v36 &&& (63 : Int32)) = (28 : Int32)
      · replace hK := mm_ip hc40_28 hK
        refine mD_tableIn C (pc := 40) (tgt := 1777) (off := 1737) dL_law_40 (by rw [hc40_28]; decide) (by rw [hc40_28]; decide) (by rw [hc40_28]; rfl) (by decide) ?_
        exact w_L_law_1777 hd C (fun z0 z1 z2 z3 z4 z5 hK => ih z0 z1 z2 z3 z4 z5 hK) _ _ _ _ _ _ hK
      replace hK := mm_in hc40_28 hK
      by_cases hc40_29 : (v36 &&& (63 : Int32)) = (29 : Int32)
      · replace hK := mm_ip hc40_29 hK
        refine mD_tableIn C (pc := 40) (tgt := 1790) (off := 1750) dL_law_40 (by rw [hc40_29]; decide) (by rw [hc40_29]; decide) (by rw [hc40_29]; rfl) (by decide) ?_
        exact w_L_law_1790 hd C (fun z0 z1 z2 z3 z4 z5 hK => ih z0 z1 z2 z3 z4 z5 hK) _ _ _ _ _ _ hK
      replace hK := mm_in hc40_29 hK
      by_cases hc40_30 : (v36 &&& (63 : Int32)) = (30 : Int32)
      · replace hK := mm_ip hc40_30 hK
        refine mD_tableIn C (pc := 40) (tgt := 1846) (off := 1806) dL_law_40 (by rw [hc40_30]; decide) (by rw [hc40_30]; decide) (by rw [hc40_30]; rfl) (by decide) ?_
        exact w_L_law_1846 hd C (fun z0 z1 z2 z3 z4 z5 hK => ih z0 z1 z2 z3 z4 z5 hK) _ _ _ _ _ _ hK
      replace hK := mm_in hc40_30 hK
      by_cases hc40_31 : (v36 &&& (63 : Int32)) = (31 : Int32)
      · replace hK := mm_ip hc40_31 hK
        refine mD_tableIn C (pc := 40) (tgt := 1859) (off := 1819) dL_law_40 (by rw [hc40_31]; decide) (by rw [hc40_31]; decide) (by rw [hc40_31]; rfl) (by decide) ?_
        exact w_L_law_1859 hd C (fun z0 z1 z2 z3 z4 z5 hK => ih z0 z1 z2 z3 z4 z5 hK) _ _ _ _ _ _ hK
      replace hK := mm_in hc40_31 hK
      by_cases hc40_32 : (v36 &&& (63 : Int32)) = (32 : Int32)
      · replace hK := mm_ip hc40_32 hK
        refine mD_tableIn C (pc := 40) (tgt := 1872) (off := 1832) dL_law_40 (by rw [hc40_32]; decide) (by rw [hc40_32]; decide) (by rw [hc40_32]; rfl) (by decide) ?_
        exact w_L_law_1872 hd C (fun z0 z1 z2 z3 z4 z5 hK => ih z0 z1 z2 z3 z4 z5 hK) _ _ _ _ _ _ hK
      replace hK := mm_in hc40_32 hK
      by_cases hc40_33 : (v36 &&& (63 : Int32)) = (33 : Int32)
      · replace hK := mm_ip hc40_33 hK
        refine mD_tableIn C (pc := 40) (tgt := 1928) (off := 1888) dL_law_40 (by rw [hc40_33]; decide) (by rw [hc40_33]; decide) (by rw [hc40_33]; rfl) (by decide) ?_
        exact w_L_law_1928 hd C (fun z0 z1 z2 z3 z4 z5 hK => ih z0 z1 z2 z3 z4 z5 hK) _ _ _ _ _ _ hK
      replace hK := mm_in hc40_33 hK
      by_cases hc40_34 : (v36 &&& (63 : Int32)) = (34 : Int32)
      · replace hK := mm_ip hc40_34 hK
        refine mD_tableIn C (pc := 40) (tgt := 2019) (off := 1979) dL_law_40 (by rw [hc40_34]; decide) (by rw [hc40_34]; decide) (by rw [hc40_34]; rfl) (by decide) ?_
        exact w_L_law_2019 hd C (fun z0 z1 z2 z3 z4 z5 hK => ih z0 z1 z2 z3 z4 z5 hK) _ _ _ _ _ _ hK
      replace hK := mm_in hc40_34 hK
      by_cases hc40_35 : (v36 &&& (63 : Int32)) = (35 : Int32)
      · replace hK := mm_ip hc40_35 hK
        refine mD_tableIn C (pc := 40) (tgt := 2099) (off := 2059) dL_law_40 (by rw [hc40_35]; decide) (by rw [hc40_35]; decide) (by rw [hc40_35]; rfl) (by decide) ?_
        exact w_L_law_2099 hd C (fun z0 z1 z2 z3 z4 z5 hK => ih z0 z1 z2 z3 z4 z5 hK) _ _ _ _ _ _ hK
      replace hK := mm_in hc40_35 hK
      by_cases hc40_36 : (v36 &&& (63 : Int32)) = (36 : Int32)
      · replace hK := mm_ip hc40_36 hK
        refine mD_tableIn C (pc := 40) (tgt := 2155) (off := 2115) dL_law_40 (by rw [hc40_36]; decide) (by rw [hc40_36]; decide) (by rw [hc40_36]; rfl) (by decide) ?_
        exact w_L_law_2155 hd C (fun z0 z1 z2 z3 z4 z5 hK => ih z0 z1 z2 z3 z4 z5 hK) _ _ _ _ _ _ hK
      replace hK := mm_in hc40_36 hK
      by_cases hc40_37 : (v36 &&& (63 : Int32)) = (37 : Int32)
      · replace hK := mm_ip hc40_37 hK
        refine mD_tableIn C (pc := 40) (tgt := 2223) (off := 2183) dL_law_40 (by rw [hc40_37]; decide) (by rw [hc40_37]; decide) (by rw [hc40_37]; rfl) (by decide) ?_
        exact w_L_law_2223 hd C (fun z0 z1 z2 z3 z4 z5 hK => ih z0 z1 z2 z3 z4 z5 hK) _ _ _ _ _ _ hK
      replace hK := mm_in hc40_37 hK
      by_cases hc40_38 : (v36 &&& (63 : Int32)) = (38 : Int32)
      · replace hK := mm_ip hc40_38 hK
        refine mD_tableIn C (pc := 40) (tgt := 2279) (off := 2239) dL_law_40 (by rw [hc40_38]; decide) (by rw [hc40_38]; decide) (by rw [hc40_38]; rfl) (by decide) ?_
        exact w_L_law_2279 hd C (fun z0 z1 z2 z3 z4 z5 hK => ih z0 z1 z2 z3 z4 z5 hK) _ _ _ _ _ _ hK
      replace hK := mm_in hc40_38 hK
      by_cases hc40_39 : (v36 &&& (63 : Int32)) = (39 : Int32)
      · replace hK := mm_ip hc40_39 hK
        refine mD_tableIn C (pc := 40) (tgt := 2339) (off := 2299) dL_law_40 (by rw [hc40_39]; decide) (by rw [hc40_39]; decide) (by rw [hc40_39]; rfl) (by decide) ?_
        exact w_L_law_2339 hd C (fun z0 z1 z2 z3 z4 z5 hK => ih z0 z1 z2 z3 z4 z5 hK) _ _ _ _ _ _ hK
      replace hK := mm_in hc40_39 hK
      by_cases hc40_40 : (v36 &&& (63 : Int32)) = (40 : Int32)
      · replace hK := mm_ip hc40_40 hK
        refine mD_tableIn C (pc := 40) (tgt := 2450) (off := 2410) dL_law_40 (by rw [hc40_40]; decide) (by rw [hc40_40]; decide) (by rw [hc40_40]; rfl) (by decide) ?_
        exact w_L_law_2450 hd C (fun z0 z1 z2 z3 z4 z5 hK => ih z0 z1 z2 z3 z4 z5 hK) _ _ _ _ _ _ hK
      replace hK := mm_in hc40_40 hK
      by_cases hc40_41 : (v36 &&& (63 : Int32)) = (41 : Int32)
      · replace hK := mm_ip hc40_41 hK
        refine mD_tableIn C (pc := 40) (tgt := 2506) (off := 2466) dL_law_40 (by rw [hc40_41]; decide) (by rw [hc40_41]; decide) (by rw [hc40_41]; rfl) (by decide) ?_
        exact w_L_law_2506 hd C (fun z0 z1 z2 z3 z4 z5 hK => ih z0 z1 z2 z3 z4 z5 hK) _ _ _ _ _ _ hK
      replace hK := mm_in hc40_41 hK
      by_cases hc40_42 : (v36 &&& (63 : Int32)) = (42 : Int32)
      · replace hK := mm_ip hc40_42 hK
        refine mD_tableIn C (pc := 40) (tgt := 2542) (off := 2502) dL_law_40 (by rw [hc40_42]; decide) (by rw [hc40_42]; decide) (by rw [hc40_42]; rfl) (by decide) ?_
        exact w_L_law_2542 hd C (fun z0 z1 z2 z3 z4 z5 hK => ih z0 z1 z2 z3 z4 z5 hK) _ _ _ _ _ _ hK
      replace hK := mm_in hc40_42 hK
      by_cases hc40_43 : (v36 &&& (63 : Int32)) = (43 : Int32)
      · replace hK := mm_ip hc40_43 hK
        refine mD_tableIn C (pc := 40) (tgt := 2578) (off := 2538) dL_law_40 (by rw [hc40_43]; decide) (by rw [hc40_43]; decide) (by rw [hc40_43]; rfl) (by decide) ?_
        exact w_L_law_2578 hd C (fun z0 z1 z2 z3 z4 z5 hK => ih z0 z1 z2 z3 z4 z5 hK) _ _ _ _ _ _ hK
      replace hK := mm_in hc40_43 hK
      refine mD_tableOut C (pc := 40) (tgt := 2603) dL_law_40 (by have t0 := mm_nei hc40_0 (k := 0) (by decide); have t1 := mm_nei hc40_1 (k := 1) (by decide); have t2 := mm_nei hc40_2 (k := 2) (by decide); have t3 := mm_nei hc40_3 (k := 3) (by decide); have t4 := mm_nei hc40_4 (k := 4) (by decide); have t5 := mm_nei hc40_5 (k := 5) (by decide); have t6 := mm_nei hc40_6 (k := 6) (by decide); have t7 := mm_nei hc40_7 (k := 7) (by decide); have t8 := mm_nei hc40_8 (k := 8) (by decide); have t9 := mm_nei hc40_9 (k := 9) (by decide); have t10 := mm_nei hc40_10 (k := 10) (by decide); have t11 := mm_nei hc40_11 (k := 11) (by decide); have t12 := mm_nei hc40_12 (k := 12) (by decide); have t13 := mm_nei hc40_13 (k := 13) (by decide); have t14 := mm_nei hc40_14 (k := 14) (by decide); have t15 := mm_nei hc40_15 (k := 15) (by decide); have t16 := mm_nei hc40_16 (k := 16) (by decide); have t17 := mm_nei hc40_17 (k := 17) (by decide); have t18 := mm_nei hc40_18 (k := 18) (by decide); have t19 := mm_nei hc40_19 (k := 19) (by decide); have t20 := mm_nei hc40_20 (k := 20) (by decide); have t21 := mm_nei hc40_21 (k := 21) (by decide); have t22 := mm_nei hc40_22 (k := 22) (by decide); have t23 := mm_nei hc40_23 (k := 23) (by decide); have t24 := mm_nei hc40_24 (k := 24) (by decide); have t25 := mm_nei hc40_25 (k := 25) (by decide); have t26 := mm_nei hc40_26 (k := 26) (by decide); have t27 := mm_nei hc40_27 (k := 27) (by decide); have t28 := mm_nei hc40_28 (k := 28) (by decide); have t29 := mm_nei hc40_29 (k := 29) (by decide); have t30 := mm_nei hc40_30 (k := 30) (by decide); have t31 := mm_nei hc40_31 (k := 31) (by decide); have t32 := mm_nei hc40_32 (k := 32) (by decide); have t33 := mm_nei hc40_33 (k := 33) (by decide); have t34 := mm_nei hc40_34 (k := 34) (by decide); have t35 := mm_nei hc40_35 (k := 35) (by decide); have t36 := mm_nei hc40_36 (k := 36) (by decide); have t37 := mm_nei hc40_37 (k := 37) (by decide); have t38 := mm_nei hc40_38 (k := 38) (by decide); have t39 := mm_nei hc40_39 (k := 39) (by decide); have t40 := mm_nei hc40_40 (k := 40) (by decide); have t41 := mm_nei hc40_41 (k := 41) (by decide); have t42 := mm_nei hc40_42 (k := 42) (by decide); have t43 := mm_nei hc40_43 (k := 43) (by decide); omega) (by decide) ?_
      exact w_L_law_2603 hd C (fun z0 z1 z2 z3 z4 z5 hK => ih z0 z1 z2 z3 z4 z5 hK) _ _ _ _ _ _ hK
def F_L_law (a0 : Option Nat) (h : MH) : Option (Int32 × MH) := mm_b2 (nO h 11 [.null, .int 0, .null, .int 0, .int 0, .null, .null, .null, .null, .null, .null, .null, .null, .null, .null, .null] 16) fun v0 h0 => v0.bind fun b4 => (F_X11_init (some b4) h0).bind fun h4 => mm_b2 (nO h4 12 [.null, .null, .null, .null, .int 0, .null, .int 0, .int 0, .int 0, .int 0, .int 0, .int 0, .int 0, .int 0, .int 0, .int 0, .int 0, .int 0, .int 0, .null, .null, .null, .int 0, .null, .null, .int 0, .null, .int 0, .int 0, .int 0, .int 0, .null, .null, .int 0, .null, .null, .null, .null, .int 0, .long 0, .long 0, .long 0, .null, .int 0, .null, .null, .null, .null] 48) fun v8 h8 => v8.bind fun b12 => (F_X12_init (some b12) h8).bind fun h12 => mm_b2 (nL_ h12 (1 : Int32)) fun v17 h17 => F_L_law_23 mm_N a0 (some b4) (some b12) v17 (0 : Int32) h17
set_option maxRecDepth 20000 in
set_option maxHeartbeats 4000000 in
theorem S_L_law {d : Nat} {V : Nat → List (Nat × Value) → List Value → MH → Prop} (hd : 141 ≤ d) {a0 : Option Nat} {h : MH} {r : Int32} {hz : MH} (C : mm_D [] d yL_law cL_law 8 (some .boolean) (.inr (some (.int r))) hz V) (hK : F_L_law a0 h = some (r, hz)) : V 0 [(0, va_rf a0)] [] h := by
  unfold F_L_law at hK
  replace hK := mm_b2s hK; obtain ⟨v0, h0, e0, hK⟩ := hK
  refine mD_new C (pc := 0) inGX11 tyX11 tyX11_ok rfl wd_175 wd_176 wd_142 (mm_dv (by decide)) (fun _ => rfl) dL_law_0 e0 ?_
  refine mD_dup C (pc := 3) dL_law_3 mm_crf ?_
  replace hK := mm_bd hK; obtain ⟨b4, e4, hK⟩ := hK
  subst e4
  replace hK := mm_bd hK; obtain ⟨h4, f4, hK⟩ := hK
  refine mD_callI C (pc := 4) (d1 := 6) (As := []) (st := [va_rf (some b4)]) false ((S_X11_init (by omega)) f4) tT_X11_init rfl wd_177 wd_178 (by omega) (by decide) rfl (by simp [mm_crf, mm_cti, mm_ctl]) rfl dL_law_4 ?_
  refine mD_astore_n C (pc := 7) (i := 1) (lv' := [(1, va_rf (some b4)), (0, va_rf a0)]) dL_law_7 rfl (by decide) (by simp [mm_crf]) ?_
  replace hK := mm_b2s hK; obtain ⟨v8, h8, e8, hK⟩ := hK
  refine mD_new C (pc := 8) inGX12 tyX12 tyX12_ok rfl wd_1993 wd_1994 wd_170 (mm_dv (by decide)) (fun _ => rfl) dL_law_8 e8 ?_
  refine mD_dup C (pc := 11) dL_law_11 mm_crf ?_
  replace hK := mm_bd hK; obtain ⟨b12, e12, hK⟩ := hK
  subst e12
  replace hK := mm_bd hK; obtain ⟨h12, f12, hK⟩ := hK
  refine mD_callI C (pc := 12) (d1 := 1) (As := []) (st := [va_rf (some b12)]) false ((S_X12_init (by omega)) f12) tT_X12_init rfl wd_1995 wd_1996 (by omega) (by decide) rfl (by simp [mm_crf, mm_cti, mm_ctl]) rfl dL_law_12 ?_
  refine mD_astore_n C (pc := 15) (i := 2) (lv' := [(2, va_rf (some b12)), (1, va_rf (some b4)), (0, va_rf a0)]) dL_law_15 rfl (by decide) (by simp [mm_crf]) ?_
  refine mD_iconst C (pc := 16) (v := (1 : Int32)) dL_law_16 (by decide) ?_
  replace hK := mm_b2s hK; obtain ⟨v17, h17, e17, hK⟩ := hK
  refine mD_newJ C (pc := 17) wd_844 dL_law_17 e17 ?_
  refine mD_astore_n C (pc := 19) (i := 3) (lv' := [(3, va_rf v17), (2, va_rf (some b12)), (1, va_rf (some b4)), (0, va_rf a0)]) dL_law_19 rfl (by decide) (by simp [mm_crf]) ?_
  refine mD_iconst C (pc := 20) (v := (0 : Int32)) dL_law_20 (by decide) ?_
  refine mD_istore C (pc := 21) (i := 4) (lv' := [(4, .int (0 : Int32)), (3, va_rf v17), (2, va_rf (some b12)), (1, va_rf (some b4)), (0, va_rf a0)]) dL_law_21 (by decide) (by simp [mm_crf]) ?_
  refine mD_sub C [4, 3, 2, 1, 0] rfl ?_
  exact w_L_law_23 hd C _ _ _ _ _ _ _ hK
