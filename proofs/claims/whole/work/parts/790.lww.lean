/-! The law's own methods: words, rows. -/
def lwl : List Cond := [Cond.methodLink RL 65 (aY 117), Cond.methodLink RL 69 (aY 118), Cond.methodLink RL 7 (aY 119), Cond.methodLink RL 84 (aY 120), Cond.methodLink RL 15 (aY 121), Cond.methodLink RL 20 (aY 122), Cond.methodLink RL 24 (aY 123), Cond.methodLink RL 27 (aY 124), Cond.methodLink RL 30 (aY 125), Cond.methodLink RL 34 (aY 126), Cond.methodLink RL 38 (aY 127), Cond.methodLink RL 41 (aY 128), Cond.methodLink RL 44 (aY 129), Cond.methodLink RL 47 (aY 130), Cond.methodLink RL 50 (aY 131), Cond.methodLink RL 53 (aY 132), Cond.methodLink RL 56 (aY 133), Cond.methodLink RL 130 (aY 134), Cond.methodLink RL 134 (aY 135), Cond.methodLink RL 138 (aY 136), Cond.methodLink RL 59 (aY 137), Cond.methodLink RL 145 (aY 138), Cond.methodLink RL 62 (aY 139), Cond.methodLink RL 152 (aY 140), Cond.methodLink RL 156 (aY 141), Cond.methodLink RL 68 (aY 159), Cond.methodLink RL 80 (aY 161), Cond.methodLink RL 73 (aY 188), Cond.methodLink RL 79 (aY 189), Cond.methodLink RL 87 (aY 190), Cond.methodLink RL 90 (aY 245), Cond.methodLink RL 94 (aY 247), Cond.methodLink RL 97 (aY 249), Cond.methodLink RL 100 (aY 251), Cond.methodLink RL 104 (aY 252), Cond.methodLink RL 108 (aY 257), Cond.methodLink RL 111 (aY 258), Cond.methodLink RL 114 (aY 259), Cond.methodLink RL 117 (aY 265), Cond.methodLink RL 120 (aY 268), Cond.methodLink RL 123 (aY 272), Cond.methodLink RL 126 (aY 274), Cond.methodLink RL 129 (aY 275), Cond.methodLink RL 133 (aY 276), Cond.methodLink RL 137 (aY 277), Cond.methodLink RL 141 (aY 280), Cond.methodLink RL 144 (aY 281), Cond.methodLink RL 148 (aY 283), Cond.methodLink RL 151 (aY 285), Cond.methodLink RL 155 (aY 286), Cond.methodLink RL 160 (aY 287), Cond.methodLink RL 74 yL_table, Cond.static yL_table, Cond.methodLink RL 88 yL_count, Cond.static yL_count, Cond.methodLink RL 91 yL_cell, Cond.static yL_cell, Cond.methodLink RL 95 yL_along, Cond.static yL_along, Cond.methodLink RL 98 yL_right, Cond.static yL_right, Cond.methodLink RL 101 yL_plan, Cond.static yL_plan, Cond.methodLink RL 105 yL_goes, Cond.static yL_goes, Cond.methodLink RL 109 yL_wrongPaths, Cond.static yL_wrongPaths, Cond.methodLink RL 112 yL_cheapest, Cond.static yL_cheapest, Cond.methodLink RL 115 yL_clashes, Cond.static yL_clashes, Cond.methodLink RL 118 yL_order, Cond.static yL_order, Cond.methodLink RL 121 yL_run, Cond.static yL_run, Cond.methodLink RL 124 yL_lay, Cond.static yL_lay, Cond.methodLink RL 127 yL_take, Cond.static yL_take, Cond.methodLink RL 142 yL_look, Cond.static yL_look, Cond.methodLink RL 149 yL_years, Cond.static yL_years, Cond.initialized RL, Cond.classLink RL 13 "java/lang/IllegalArgumentException", Cond.classLink RL 18 "java/util/NoSuchElementException", Cond.classLink RL 8 RX9, Cond.classLink RL 66 RX10, Cond.arrayClass .long]
set_option maxRecDepth 20000 in
theorem lwl_in : ∀ w ∈ lwl, w ∈ amTB := am_tbof [178, 628, 900, 636, 1190, 1227, 1240, 1255, 1275, 1333, 1357, 1364, 1371, 1380, 1401, 1417, 1430, 640, 655, 674, 1443, 873, 1454, 877, 892, 1468, 1748, 1752, 1756, 1868, 1872, 1884, 1893, 1958, 2042, 2110, 2129, 2133, 2137, 2157, 2173, 2192, 2200, 2204, 2208, 2212, 2224, 2233, 2237, 2246, 2250, 896, 897, 1186, 1187, 1224, 1225, 1237, 1238, 1252, 1253, 1272, 1273, 1330, 1331, 1354, 1355, 1361, 1362, 1368, 1369, 1377, 1378, 1398, 1399, 1414, 1415, 1427, 1428, 1440, 1441, 1451, 1452, 152, 899, 1189, 176, 1466, 2254] (by decide +kernel) (by decide +kernel)
theorem lwl_at (i : Nat) {w : Cond} (h : lwl[i]? = some w) : w ∈ amTB := lwl_in w (List.mem_of_getElem? h)
theorem lw_w_lk_117 : Cond.methodLink RL 65 (aY 117) ∈ amTB := lwl_at 0 rfl
theorem lw_w_lk_118 : Cond.methodLink RL 69 (aY 118) ∈ amTB := lwl_at 1 rfl
theorem lw_w_lk_119 : Cond.methodLink RL 7 (aY 119) ∈ amTB := lwl_at 2 rfl
theorem lw_w_lk_120 : Cond.methodLink RL 84 (aY 120) ∈ amTB := lwl_at 3 rfl
theorem lw_w_lk_121 : Cond.methodLink RL 15 (aY 121) ∈ amTB := lwl_at 4 rfl
theorem lw_w_lk_122 : Cond.methodLink RL 20 (aY 122) ∈ amTB := lwl_at 5 rfl
theorem lw_w_lk_123 : Cond.methodLink RL 24 (aY 123) ∈ amTB := lwl_at 6 rfl
theorem lw_w_lk_124 : Cond.methodLink RL 27 (aY 124) ∈ amTB := lwl_at 7 rfl
theorem lw_w_lk_125 : Cond.methodLink RL 30 (aY 125) ∈ amTB := lwl_at 8 rfl
theorem lw_w_lk_126 : Cond.methodLink RL 34 (aY 126) ∈ amTB := lwl_at 9 rfl
theorem lw_w_lk_127 : Cond.methodLink RL 38 (aY 127) ∈ amTB := lwl_at 10 rfl
theorem lw_w_lk_128 : Cond.methodLink RL 41 (aY 128) ∈ amTB := lwl_at 11 rfl
theorem lw_w_lk_129 : Cond.methodLink RL 44 (aY 129) ∈ amTB := lwl_at 12 rfl
theorem lw_w_lk_130 : Cond.methodLink RL 47 (aY 130) ∈ amTB := lwl_at 13 rfl
theorem lw_w_lk_131 : Cond.methodLink RL 50 (aY 131) ∈ amTB := lwl_at 14 rfl
theorem lw_w_lk_132 : Cond.methodLink RL 53 (aY 132) ∈ amTB := lwl_at 15 rfl
theorem lw_w_lk_133 : Cond.methodLink RL 56 (aY 133) ∈ amTB := lwl_at 16 rfl
theorem lw_w_lk_134 : Cond.methodLink RL 130 (aY 134) ∈ amTB := lwl_at 17 rfl
theorem lw_w_lk_135 : Cond.methodLink RL 134 (aY 135) ∈ amTB := lwl_at 18 rfl
theorem lw_w_lk_136 : Cond.methodLink RL 138 (aY 136) ∈ amTB := lwl_at 19 rfl
theorem lw_w_lk_137 : Cond.methodLink RL 59 (aY 137) ∈ amTB := lwl_at 20 rfl
theorem lw_w_lk_138 : Cond.methodLink RL 145 (aY 138) ∈ amTB := lwl_at 21 rfl
theorem lw_w_lk_139 : Cond.methodLink RL 62 (aY 139) ∈ amTB := lwl_at 22 rfl
theorem lw_w_lk_140 : Cond.methodLink RL 152 (aY 140) ∈ amTB := lwl_at 23 rfl
theorem lw_w_lk_141 : Cond.methodLink RL 156 (aY 141) ∈ amTB := lwl_at 24 rfl
theorem lw_w_lk_159 : Cond.methodLink RL 68 (aY 159) ∈ amTB := lwl_at 25 rfl
theorem lw_w_lk_161 : Cond.methodLink RL 80 (aY 161) ∈ amTB := lwl_at 26 rfl
theorem lw_w_lk_188 : Cond.methodLink RL 73 (aY 188) ∈ amTB := lwl_at 27 rfl
theorem lw_w_lk_189 : Cond.methodLink RL 79 (aY 189) ∈ amTB := lwl_at 28 rfl
theorem lw_w_lk_190 : Cond.methodLink RL 87 (aY 190) ∈ amTB := lwl_at 29 rfl
theorem lw_w_lk_245 : Cond.methodLink RL 90 (aY 245) ∈ amTB := lwl_at 30 rfl
theorem lw_w_lk_247 : Cond.methodLink RL 94 (aY 247) ∈ amTB := lwl_at 31 rfl
theorem lw_w_lk_249 : Cond.methodLink RL 97 (aY 249) ∈ amTB := lwl_at 32 rfl
theorem lw_w_lk_251 : Cond.methodLink RL 100 (aY 251) ∈ amTB := lwl_at 33 rfl
theorem lw_w_lk_252 : Cond.methodLink RL 104 (aY 252) ∈ amTB := lwl_at 34 rfl
theorem lw_w_lk_257 : Cond.methodLink RL 108 (aY 257) ∈ amTB := lwl_at 35 rfl
theorem lw_w_lk_258 : Cond.methodLink RL 111 (aY 258) ∈ amTB := lwl_at 36 rfl
theorem lw_w_lk_259 : Cond.methodLink RL 114 (aY 259) ∈ amTB := lwl_at 37 rfl
theorem lw_w_lk_265 : Cond.methodLink RL 117 (aY 265) ∈ amTB := lwl_at 38 rfl
theorem lw_w_lk_268 : Cond.methodLink RL 120 (aY 268) ∈ amTB := lwl_at 39 rfl
theorem lw_w_lk_272 : Cond.methodLink RL 123 (aY 272) ∈ amTB := lwl_at 40 rfl
theorem lw_w_lk_274 : Cond.methodLink RL 126 (aY 274) ∈ amTB := lwl_at 41 rfl
theorem lw_w_lk_275 : Cond.methodLink RL 129 (aY 275) ∈ amTB := lwl_at 42 rfl
theorem lw_w_lk_276 : Cond.methodLink RL 133 (aY 276) ∈ amTB := lwl_at 43 rfl
theorem lw_w_lk_277 : Cond.methodLink RL 137 (aY 277) ∈ amTB := lwl_at 44 rfl
theorem lw_w_lk_280 : Cond.methodLink RL 141 (aY 280) ∈ amTB := lwl_at 45 rfl
theorem lw_w_lk_281 : Cond.methodLink RL 144 (aY 281) ∈ amTB := lwl_at 46 rfl
theorem lw_w_lk_283 : Cond.methodLink RL 148 (aY 283) ∈ amTB := lwl_at 47 rfl
theorem lw_w_lk_285 : Cond.methodLink RL 151 (aY 285) ∈ amTB := lwl_at 48 rfl
theorem lw_w_lk_286 : Cond.methodLink RL 155 (aY 286) ∈ amTB := lwl_at 49 rfl
theorem lw_w_lk_287 : Cond.methodLink RL 160 (aY 287) ∈ amTB := lwl_at 50 rfl
theorem lw_w_wl_table : Cond.methodLink RL 74 yL_table ∈ amTB := lwl_at 51 rfl
theorem lw_w_ws_table : Cond.static yL_table ∈ amTB := lwl_at 52 rfl
theorem lw_w_wl_count : Cond.methodLink RL 88 yL_count ∈ amTB := lwl_at 53 rfl
theorem lw_w_ws_count : Cond.static yL_count ∈ amTB := lwl_at 54 rfl
theorem lw_w_wl_cell : Cond.methodLink RL 91 yL_cell ∈ amTB := lwl_at 55 rfl
theorem lw_w_ws_cell : Cond.static yL_cell ∈ amTB := lwl_at 56 rfl
theorem lw_w_wl_along : Cond.methodLink RL 95 yL_along ∈ amTB := lwl_at 57 rfl
theorem lw_w_ws_along : Cond.static yL_along ∈ amTB := lwl_at 58 rfl
theorem lw_w_wl_right : Cond.methodLink RL 98 yL_right ∈ amTB := lwl_at 59 rfl
theorem lw_w_ws_right : Cond.static yL_right ∈ amTB := lwl_at 60 rfl
theorem lw_w_wl_plan : Cond.methodLink RL 101 yL_plan ∈ amTB := lwl_at 61 rfl
theorem lw_w_ws_plan : Cond.static yL_plan ∈ amTB := lwl_at 62 rfl
theorem lw_w_wl_goes : Cond.methodLink RL 105 yL_goes ∈ amTB := lwl_at 63 rfl
theorem lw_w_ws_goes : Cond.static yL_goes ∈ amTB := lwl_at 64 rfl
theorem lw_w_wl_wrongPaths : Cond.methodLink RL 109 yL_wrongPaths ∈ amTB := lwl_at 65 rfl
theorem lw_w_ws_wrongPaths : Cond.static yL_wrongPaths ∈ amTB := lwl_at 66 rfl
theorem lw_w_wl_cheapest : Cond.methodLink RL 112 yL_cheapest ∈ amTB := lwl_at 67 rfl
theorem lw_w_ws_cheapest : Cond.static yL_cheapest ∈ amTB := lwl_at 68 rfl
theorem lw_w_wl_clashes : Cond.methodLink RL 115 yL_clashes ∈ amTB := lwl_at 69 rfl
theorem lw_w_ws_clashes : Cond.static yL_clashes ∈ amTB := lwl_at 70 rfl
theorem lw_w_wl_order : Cond.methodLink RL 118 yL_order ∈ amTB := lwl_at 71 rfl
theorem lw_w_ws_order : Cond.static yL_order ∈ amTB := lwl_at 72 rfl
theorem lw_w_wl_run : Cond.methodLink RL 121 yL_run ∈ amTB := lwl_at 73 rfl
theorem lw_w_ws_run : Cond.static yL_run ∈ amTB := lwl_at 74 rfl
theorem lw_w_wl_lay : Cond.methodLink RL 124 yL_lay ∈ amTB := lwl_at 75 rfl
theorem lw_w_ws_lay : Cond.static yL_lay ∈ amTB := lwl_at 76 rfl
theorem lw_w_wl_take : Cond.methodLink RL 127 yL_take ∈ amTB := lwl_at 77 rfl
theorem lw_w_ws_take : Cond.static yL_take ∈ amTB := lwl_at 78 rfl
theorem lw_w_wl_look : Cond.methodLink RL 142 yL_look ∈ amTB := lwl_at 79 rfl
theorem lw_w_ws_look : Cond.static yL_look ∈ amTB := lwl_at 80 rfl
theorem lw_w_wl_years : Cond.methodLink RL 149 yL_years ∈ amTB := lwl_at 81 rfl
theorem lw_w_ws_years : Cond.static yL_years ∈ amTB := lwl_at 82 rfl
theorem lw_w_ini : Cond.initialized RL ∈ amTB := lwl_at 83 rfl
theorem lw_w_iae : Cond.classLink RL 13 "java/lang/IllegalArgumentException" ∈ amTB := lwl_at 84 rfl
theorem lw_w_nse : Cond.classLink RL 18 "java/util/NoSuchElementException" ∈ amTB := lwl_at 85 rfl
theorem lw_w_c8 : Cond.classLink RL 8 RX9 ∈ amTB := lwl_at 86 rfl
theorem lw_w_c66 : Cond.classLink RL 66 RX10 ∈ amTB := lwl_at 87 rfl
theorem lw_w_al : Cond.arrayClass .long ∈ amTB := lwl_at 88 rfl
set_option maxRecDepth 20000 in
theorem lw_w_cw_table : Cond.codeWith yL_table cL_table 4 (some .int) [(0, 9, 12, 13)] ∈ amTB := am_tbof (ws := [Cond.codeWith yL_table cL_table 4 (some .int) [(0, 9, 12, 13)]]) [898] (by decide +kernel) (by decide +kernel) _ List.mem_cons_self
set_option maxRecDepth 20000 in
theorem lw_w_cw_count : Cond.codeWith yL_count cL_count 4 (some .int) [(0, 9, 12, 18)] ∈ amTB := am_tbof (ws := [Cond.codeWith yL_count cL_count 4 (some .int) [(0, 9, 12, 18)]]) [1188] (by decide +kernel) (by decide +kernel) _ List.mem_cons_self
set_option maxRecDepth 20000 in
theorem lw_w_cw_cell : Cond.codeWith yL_cell cL_cell 5 (some .int) [(0, 10, 13, 18)] ∈ amTB := am_tbof (ws := [Cond.codeWith yL_cell cL_cell 5 (some .int) [(0, 10, 13, 18)]]) [1226] (by decide +kernel) (by decide +kernel) _ List.mem_cons_self
set_option maxRecDepth 20000 in
theorem lw_w_cw_along : Cond.codeWith yL_along cL_along 5 (some .int) [(0, 10, 13, 18)] ∈ amTB := am_tbof (ws := [Cond.codeWith yL_along cL_along 5 (some .int) [(0, 10, 13, 18)]]) [1239] (by decide +kernel) (by decide +kernel) _ List.mem_cons_self
set_option maxRecDepth 20000 in
theorem lw_w_cw_right : Cond.codeWith yL_right cL_right 5 (some .int) [(0, 10, 13, 18)] ∈ amTB := am_tbof (ws := [Cond.codeWith yL_right cL_right 5 (some .int) [(0, 10, 13, 18)]]) [1254] (by decide +kernel) (by decide +kernel) _ List.mem_cons_self
set_option maxRecDepth 20000 in
theorem lw_w_cw_plan : Cond.codeWith yL_plan cL_plan 6 (some .int) [(0, 12, 15, 18)] ∈ amTB := am_tbof (ws := [Cond.codeWith yL_plan cL_plan 6 (some .int) [(0, 12, 15, 18)]]) [1274] (by decide +kernel) (by decide +kernel) _ List.mem_cons_self
set_option maxRecDepth 20000 in
theorem lw_w_cw_goes : Cond.codeWith yL_goes cL_goes 7 (some .int) [(0, 14, 17, 18)] ∈ amTB := am_tbof (ws := [Cond.codeWith yL_goes cL_goes 7 (some .int) [(0, 14, 17, 18)]]) [1332] (by decide +kernel) (by decide +kernel) _ List.mem_cons_self
set_option maxRecDepth 20000 in
theorem lw_w_cw_wrongPaths : Cond.codeWith yL_wrongPaths cL_wrongPaths 4 (some .int) [(0, 9, 12, 18)] ∈ amTB := am_tbof (ws := [Cond.codeWith yL_wrongPaths cL_wrongPaths 4 (some .int) [(0, 9, 12, 18)]]) [1356] (by decide +kernel) (by decide +kernel) _ List.mem_cons_self
set_option maxRecDepth 20000 in
theorem lw_w_cw_cheapest : Cond.codeWith yL_cheapest cL_cheapest 5 (some .int) [(0, 10, 13, 18)] ∈ amTB := am_tbof (ws := [Cond.codeWith yL_cheapest cL_cheapest 5 (some .int) [(0, 10, 13, 18)]]) [1363] (by decide +kernel) (by decide +kernel) _ List.mem_cons_self
set_option maxRecDepth 20000 in
theorem lw_w_cw_clashes : Cond.codeWith yL_clashes cL_clashes 4 (some .int) [(0, 9, 12, 18)] ∈ amTB := am_tbof (ws := [Cond.codeWith yL_clashes cL_clashes 4 (some .int) [(0, 9, 12, 18)]]) [1370] (by decide +kernel) (by decide +kernel) _ List.mem_cons_self
set_option maxRecDepth 20000 in
theorem lw_w_cw_order : Cond.codeWith yL_order cL_order 5 (some .int) [(0, 10, 13, 18)] ∈ amTB := am_tbof (ws := [Cond.codeWith yL_order cL_order 5 (some .int) [(0, 10, 13, 18)]]) [1379] (by decide +kernel) (by decide +kernel) _ List.mem_cons_self
set_option maxRecDepth 20000 in
theorem lw_w_cw_run : Cond.codeWith yL_run cL_run 4 (some .int) [(0, 9, 12, 18)] ∈ amTB := am_tbof (ws := [Cond.codeWith yL_run cL_run 4 (some .int) [(0, 9, 12, 18)]]) [1400] (by decide +kernel) (by decide +kernel) _ List.mem_cons_self
set_option maxRecDepth 20000 in
theorem lw_w_cw_lay : Cond.codeWith yL_lay cL_lay 6 (some .int) [(0, 12, 15, 18)] ∈ amTB := am_tbof (ws := [Cond.codeWith yL_lay cL_lay 6 (some .int) [(0, 12, 15, 18)]]) [1416] (by decide +kernel) (by decide +kernel) _ List.mem_cons_self
set_option maxRecDepth 20000 in
theorem lw_w_cw_take : Cond.codeWith yL_take cL_take 4 (some .int) [(0, 9, 12, 18)] ∈ amTB := am_tbof (ws := [Cond.codeWith yL_take cL_take 4 (some .int) [(0, 9, 12, 18)]]) [1429] (by decide +kernel) (by decide +kernel) _ List.mem_cons_self
set_option maxRecDepth 20000 in
theorem lw_w_cw_look : Cond.codeWith yL_look cL_look 4 (some .int) [(0, 9, 12, 18)] ∈ amTB := am_tbof (ws := [Cond.codeWith yL_look cL_look 4 (some .int) [(0, 9, 12, 18)]]) [1442] (by decide +kernel) (by decide +kernel) _ List.mem_cons_self
set_option maxRecDepth 20000 in
theorem lw_w_cw_years : Cond.codeWith yL_years cL_years 6 (some .int) [(0, 12, 15, 18), (0, 12, 19, 13)] ∈ amTB := am_tbof (ws := [Cond.codeWith yL_years cL_years 6 (some .int) [(0, 12, 15, 18), (0, 12, 19, 13)]]) [1453] (by decide +kernel) (by decide +kernel) _ List.mem_cons_self
set_option maxRecDepth 20000 in
theorem lw_ca_0 : Cond.castable (amEx 0) "java/util/NoSuchElementException" ∈ lw_tbl := List.mem_of_getElem? (i := 1210) (by decide +kernel)
set_option maxRecDepth 20000 in
theorem lw_ca_1 : Cond.castable (amEx 1) "java/lang/IllegalArgumentException" ∈ lw_tbl := List.mem_of_getElem? (i := 906) (by decide +kernel)
theorem ra_117 : aK 117 = 2 ∧ (aA 117).1 = 1 ∧ (aA 117).2.1 = 2 ∧ (aA 117).2.2 = 9 ∧ aF 117 = 3 ∧ aN 117 = 2 ∧ aL 117 = 61 := by decide +kernel
theorem ra_118 : aK 118 = 0 ∧ (aA 118).1 = 6 ∧ (aA 118).2.1 = 6 ∧ (aA 118).2.2 = 9 ∧ aF 118 = 1 ∧ aN 118 = 6 ∧ aL 118 = 22 := by decide +kernel
theorem ra_119 : aK 119 = 0 ∧ (aA 119).1 = 2 ∧ (aA 119).2.1 = 4 ∧ (aA 119).2.2 = 9 ∧ aF 119 = 9 ∧ aN 119 = 4 ∧ aL 119 = 222 := by decide +kernel
theorem ra_120 : aK 120 = 0 ∧ (aA 120).1 = 1 ∧ (aA 120).2.1 = 1 ∧ (aA 120).2.2 = 9 ∧ aF 120 = 0 ∧ aN 120 = 1 ∧ aL 120 = 0 := by decide +kernel
theorem ra_121 : aK 121 = 0 ∧ (aA 121).1 = 2 ∧ (aA 121).2.1 = 2 ∧ (aA 121).2.2 = 9 ∧ aF 121 = 6 ∧ aN 121 = 2 ∧ aL 121 = 90 := by decide +kernel
theorem ra_122 : aK 122 = 0 ∧ (aA 122).1 = 3 ∧ (aA 122).2.1 = 3 ∧ (aA 122).2.2 = 9 ∧ aF 122 = 7 ∧ aN 122 = 3 ∧ aL 122 = 112 := by decide +kernel
theorem ra_123 : aK 123 = 0 ∧ (aA 123).1 = 3 ∧ (aA 123).2.1 = 5 ∧ (aA 123).2.2 = 9 ∧ aF 123 = 7 ∧ aN 123 = 5 ∧ aL 123 = 111 := by decide +kernel
theorem ra_124 : aK 124 = 0 ∧ (aA 124).1 = 3 ∧ (aA 124).2.1 = 3 ∧ (aA 124).2.2 = 9 ∧ aF 124 = 7 ∧ aN 124 = 3 ∧ aL 124 = 178 := by decide +kernel
theorem ra_125 : aK 125 = 0 ∧ (aA 125).1 = 4 ∧ (aA 125).2.1 = 4 ∧ (aA 125).2.2 = 9 ∧ aF 125 = 7 ∧ aN 125 = 4 ∧ aL 125 = 134 := by decide +kernel
theorem ra_126 : aK 126 = 0 ∧ (aA 126).1 = 5 ∧ (aA 126).2.1 = 5 ∧ (aA 126).2.2 = 9 ∧ aF 126 = 7 ∧ aN 126 = 5 ∧ aL 126 = 178 := by decide +kernel
theorem ra_127 : aK 127 = 0 ∧ (aA 127).1 = 2 ∧ (aA 127).2.1 = 4 ∧ (aA 127).2.2 = 9 ∧ aF 127 = 7 ∧ aN 127 = 4 ∧ aL 127 = 178 := by decide +kernel
theorem ra_128 : aK 128 = 0 ∧ (aA 128).1 = 3 ∧ (aA 128).2.1 = 7 ∧ (aA 128).2.2 = 9 ∧ aF 128 = 7 ∧ aN 128 = 7 ∧ aL 128 = 134 := by decide +kernel
theorem ra_129 : aK 129 = 0 ∧ (aA 129).1 = 2 ∧ (aA 129).2.1 = 4 ∧ (aA 129).2.2 = 9 ∧ aF 129 = 7 ∧ aN 129 = 4 ∧ aL 129 = 178 := by decide +kernel
theorem ra_130 : aK 130 = 0 ∧ (aA 130).1 = 3 ∧ (aA 130).2.1 = 4 ∧ (aA 130).2.2 = 9 ∧ aF 130 = 7 ∧ aN 130 = 4 ∧ aL 130 = 178 := by decide +kernel
theorem ra_131 : aK 131 = 0 ∧ (aA 131).1 = 2 ∧ (aA 131).2.1 = 2 ∧ (aA 131).2.2 = 9 ∧ aF 131 = 7 ∧ aN 131 = 2 ∧ aL 131 = 178 := by decide +kernel
theorem ra_132 : aK 132 = 0 ∧ (aA 132).1 = 4 ∧ (aA 132).2.1 = 5 ∧ (aA 132).2.2 = 9 ∧ aF 132 = 7 ∧ aN 132 = 5 ∧ aL 132 = 112 := by decide +kernel
theorem ra_133 : aK 133 = 0 ∧ (aA 133).1 = 2 ∧ (aA 133).2.1 = 2 ∧ (aA 133).2.2 = 9 ∧ aF 133 = 7 ∧ aN 133 = 2 ∧ aL 133 = 111 := by decide +kernel
theorem ra_134 : aK 134 = 0 ∧ (aA 134).1 = 1 ∧ (aA 134).2.1 = 1 ∧ (aA 134).2.2 = 9 ∧ aF 134 = 3 ∧ aN 134 = 1 ∧ aL 134 = 105 := by decide +kernel
theorem ra_135 : aK 135 = 0 ∧ (aA 135).1 = 4 ∧ (aA 135).2.1 = 5 ∧ (aA 135).2.2 = 9 ∧ aF 135 = 1 ∧ aN 135 = 5 ∧ aL 135 = 23 := by decide +kernel
theorem ra_136 : aK 136 = 0 ∧ (aA 136).1 = 1 ∧ (aA 136).2.1 = 3 ∧ (aA 136).2.2 = 9 ∧ aF 136 = 7 ∧ aN 136 = 3 ∧ aL 136 = 177 := by decide +kernel
theorem ra_137 : aK 137 = 0 ∧ (aA 137).1 = 2 ∧ (aA 137).2.1 = 8 ∧ (aA 137).2.2 = 9 ∧ aF 137 = 7 ∧ aN 137 = 8 ∧ aL 137 = 177 := by decide +kernel
theorem ra_138 : aK 138 = 0 ∧ (aA 138).1 = 1 ∧ (aA 138).2.1 = 1 ∧ (aA 138).2.2 = 9 ∧ aF 138 = 0 ∧ aN 138 = 1 ∧ aL 138 = 0 := by decide +kernel
theorem ra_139 : aK 139 = 0 ∧ (aA 139).1 = 4 ∧ (aA 139).2.1 = 10 ∧ (aA 139).2.2 = 9 ∧ aF 139 = 7 ∧ aN 139 = 10 ∧ aL 139 = 178 := by decide +kernel
theorem ra_140 : aK 140 = 0 ∧ (aA 140).1 = 1 ∧ (aA 140).2.1 = 1 ∧ (aA 140).2.2 = 9 ∧ aF 140 = 3 ∧ aN 140 = 1 ∧ aL 140 = 102 := by decide +kernel
theorem ra_141 : aK 141 = 0 ∧ (aA 141).1 = 1 ∧ (aA 141).2.1 = 1 ∧ (aA 141).2.2 = 9 ∧ aF 141 = 3 ∧ aN 141 = 1 ∧ aL 141 = 102 := by decide +kernel
theorem ra_159 : aK 159 = 2 ∧ (aA 159).1 = 1 ∧ (aA 159).2.1 = 1 ∧ (aA 159).2.2 = 10 ∧ aF 159 = 1 ∧ aN 159 = 1 ∧ aL 159 = 21 := by decide +kernel
theorem ra_161 : aK 161 = 0 ∧ (aA 161).1 = 1 ∧ (aA 161).2.1 = 1 ∧ (aA 161).2.2 = 10 ∧ aF 161 = 0 ∧ aN 161 = 1 ∧ aL 161 = 0 := by decide +kernel
theorem ra_188 : aK 188 = 0 ∧ (aA 188).1 = 6 ∧ (aA 188).2.1 = 8 ∧ (aA 188).2.2 = 10 ∧ aF 188 = 0 ∧ aN 188 = 8 ∧ aL 188 = 0 := by decide +kernel
theorem ra_189 : aK 189 = 0 ∧ (aA 189).1 = 2 ∧ (aA 189).2.1 = 3 ∧ (aA 189).2.2 = 10 ∧ aF 189 = 10 ∧ aN 189 = 3 ∧ aL 189 = 225 := by decide +kernel
theorem ra_190 : aK 190 = 0 ∧ (aA 190).1 = 1 ∧ (aA 190).2.1 = 1 ∧ (aA 190).2.2 = 10 ∧ aF 190 = 0 ∧ aN 190 = 1 ∧ aL 190 = 0 := by decide +kernel
theorem ra_245 : aK 245 = 0 ∧ (aA 245).1 = 2 ∧ (aA 245).2.1 = 2 ∧ (aA 245).2.2 = 10 ∧ aF 245 = 1 ∧ aN 245 = 2 ∧ aL 245 = 23 := by decide +kernel
theorem ra_247 : aK 247 = 0 ∧ (aA 247).1 = 3 ∧ (aA 247).2.1 = 3 ∧ (aA 247).2.2 = 10 ∧ aF 247 = 2 ∧ aN 247 = 3 ∧ aL 247 = 44 := by decide +kernel
theorem ra_249 : aK 249 = 0 ∧ (aA 249).1 = 3 ∧ (aA 249).2.1 = 5 ∧ (aA 249).2.2 = 10 ∧ aF 249 = 4 ∧ aN 249 = 5 ∧ aL 249 = 91 := by decide +kernel
theorem ra_251 : aK 251 = 0 ∧ (aA 251).1 = 3 ∧ (aA 251).2.1 = 3 ∧ (aA 251).2.2 = 10 ∧ aF 251 = 10 ∧ aN 251 = 3 ∧ aL 251 = 244 := by decide +kernel
theorem ra_252 : aK 252 = 0 ∧ (aA 252).1 = 4 ∧ (aA 252).2.1 = 6 ∧ (aA 252).2.2 = 10 ∧ aF 252 = 7 ∧ aN 252 = 6 ∧ aL 252 = 171 := by decide +kernel
theorem ra_257 : aK 257 = 0 ∧ (aA 257).1 = 5 ∧ (aA 257).2.1 = 6 ∧ (aA 257).2.2 = 10 ∧ aF 257 = 11 ∧ aN 257 = 6 ∧ aL 257 = 268 := by decide +kernel
theorem ra_258 : aK 258 = 0 ∧ (aA 258).1 = 2 ∧ (aA 258).2.1 = 4 ∧ (aA 258).2.2 = 10 ∧ aF 258 = 11 ∧ aN 258 = 4 ∧ aL 258 = 268 := by decide +kernel
theorem ra_259 : aK 259 = 0 ∧ (aA 259).1 = 3 ∧ (aA 259).2.1 = 8 ∧ (aA 259).2.2 = 10 ∧ aF 259 = 7 ∧ aN 259 = 8 ∧ aL 259 = 171 := by decide +kernel
theorem ra_265 : aK 265 = 0 ∧ (aA 265).1 = 2 ∧ (aA 265).2.1 = 4 ∧ (aA 265).2.2 = 10 ∧ aF 265 = 10 ∧ aN 265 = 4 ∧ aL 265 = 244 := by decide +kernel
theorem ra_268 : aK 268 = 0 ∧ (aA 268).1 = 3 ∧ (aA 268).2.1 = 4 ∧ (aA 268).2.2 = 10 ∧ aF 268 = 11 ∧ aN 268 = 4 ∧ aL 268 = 268 := by decide +kernel
theorem ra_272 : aK 272 = 0 ∧ (aA 272).1 = 2 ∧ (aA 272).2.1 = 2 ∧ (aA 272).2.2 = 10 ∧ aF 272 = 10 ∧ aN 272 = 2 ∧ aL 272 = 244 := by decide +kernel
theorem ra_274 : aK 274 = 0 ∧ (aA 274).1 = 4 ∧ (aA 274).2.1 = 5 ∧ (aA 274).2.2 = 10 ∧ aF 274 = 3 ∧ aN 274 = 5 ∧ aL 274 = 81 := by decide +kernel
theorem ra_275 : aK 275 = 0 ∧ (aA 275).1 = 2 ∧ (aA 275).2.1 = 2 ∧ (aA 275).2.2 = 10 ∧ aF 275 = 2 ∧ aN 275 = 2 ∧ aL 275 = 44 := by decide +kernel
theorem ra_276 : aK 276 = 0 ∧ (aA 276).1 = 1 ∧ (aA 276).2.1 = 1 ∧ (aA 276).2.2 = 10 ∧ aF 276 = 1 ∧ aN 276 = 1 ∧ aL 276 = 24 := by decide +kernel
theorem ra_277 : aK 277 = 0 ∧ (aA 277).1 = 4 ∧ (aA 277).2.1 = 4 ∧ (aA 277).2.2 = 10 ∧ aF 277 = 1 ∧ aN 277 = 4 ∧ aL 277 = 22 := by decide +kernel
theorem ra_280 : aK 280 = 0 ∧ (aA 280).1 = 1 ∧ (aA 280).2.1 = 5 ∧ (aA 280).2.2 = 10 ∧ aF 280 = 11 ∧ aN 280 = 5 ∧ aL 280 = 265 := by decide +kernel
theorem ra_281 : aK 281 = 0 ∧ (aA 281).1 = 2 ∧ (aA 281).2.1 = 8 ∧ (aA 281).2.2 = 10 ∧ aF 281 = 12 ∧ aN 281 = 8 ∧ aL 281 = 289 := by decide +kernel
theorem ra_283 : aK 283 = 0 ∧ (aA 283).1 = 1 ∧ (aA 283).2.1 = 1 ∧ (aA 283).2.2 = 10 ∧ aF 283 = 0 ∧ aN 283 = 1 ∧ aL 283 = 0 := by decide +kernel
theorem ra_285 : aK 285 = 0 ∧ (aA 285).1 = 4 ∧ (aA 285).2.1 = 10 ∧ (aA 285).2.2 = 10 ∧ aF 285 = 10 ∧ aN 285 = 10 ∧ aL 285 = 244 := by decide +kernel
theorem ra_286 : aK 286 = 0 ∧ (aA 286).1 = 1 ∧ (aA 286).2.1 = 2 ∧ (aA 286).2.2 = 10 ∧ aF 286 = 1 ∧ aN 286 = 2 ∧ aL 286 = 24 := by decide +kernel
theorem ra_287 : aK 287 = 0 ∧ (aA 287).1 = 1 ∧ (aA 287).2.1 = 2 ∧ (aA 287).2.2 = 10 ∧ aF 287 = 1 ∧ aN 287 = 2 ∧ aL 287 = 24 := by decide +kernel
theorem dL_table_0 : decode cL_table 0 = .ok (.aload_n 2, 1) := by decide +kernel
theorem dL_table_1 : decode cL_table 1 = .ok (.iconst 0, 1) := by decide +kernel
theorem dL_table_2 : decode cL_table 2 = .ok (.aload_n 0, 1) := by decide +kernel
theorem dL_table_3 : decode cL_table 3 = .ok (.iload_n 1, 1) := by decide +kernel
theorem dL_table_4 : decode cL_table 4 = .ok (.invokevirtual 7, 3) := by decide +kernel
theorem dL_table_7 : decode cL_table 7 = .ok (.i2l, 1) := by decide +kernel
theorem dL_table_8 : decode cL_table 8 = .ok (.lastore, 1) := by decide +kernel
theorem dL_table_9 : decode cL_table 9 = .ok (.goto 6, 3) := by decide +kernel
theorem dL_table_12 : decode cL_table 12 = .ok (.astore_n 3, 1) := by decide +kernel
theorem dL_table_13 : decode cL_table 13 = .ok (.iconst 1, 1) := by decide +kernel
theorem dL_table_14 : decode cL_table 14 = .ok (.ireturn, 1) := by decide +kernel
theorem dL_table_15 : decode cL_table 15 = .ok (.iconst 0, 1) := by decide +kernel
theorem dL_table_16 : decode cL_table 16 = .ok (.ireturn, 1) := by decide +kernel
theorem dL_count_0 : decode cL_count 0 = .ok (.aload_n 2, 1) := by decide +kernel
theorem dL_count_1 : decode cL_count 1 = .ok (.iconst 0, 1) := by decide +kernel
theorem dL_count_2 : decode cL_count 2 = .ok (.aload_n 0, 1) := by decide +kernel
theorem dL_count_3 : decode cL_count 3 = .ok (.iload_n 1, 1) := by decide +kernel
theorem dL_count_4 : decode cL_count 4 = .ok (.invokevirtual 15, 3) := by decide +kernel
theorem dL_count_7 : decode cL_count 7 = .ok (.i2l, 1) := by decide +kernel
theorem dL_count_8 : decode cL_count 8 = .ok (.lastore, 1) := by decide +kernel
theorem dL_count_9 : decode cL_count 9 = .ok (.goto 6, 3) := by decide +kernel
theorem dL_count_12 : decode cL_count 12 = .ok (.astore_n 3, 1) := by decide +kernel
theorem dL_count_13 : decode cL_count 13 = .ok (.iconst 1, 1) := by decide +kernel
theorem dL_count_14 : decode cL_count 14 = .ok (.ireturn, 1) := by decide +kernel
theorem dL_count_15 : decode cL_count 15 = .ok (.iconst 0, 1) := by decide +kernel
theorem dL_count_16 : decode cL_count 16 = .ok (.ireturn, 1) := by decide +kernel
theorem dL_cell_0 : decode cL_cell 0 = .ok (.aload_n 3, 1) := by decide +kernel
theorem dL_cell_1 : decode cL_cell 1 = .ok (.iconst 0, 1) := by decide +kernel
theorem dL_cell_2 : decode cL_cell 2 = .ok (.aload_n 0, 1) := by decide +kernel
theorem dL_cell_3 : decode cL_cell 3 = .ok (.iload_n 1, 1) := by decide +kernel
theorem dL_cell_4 : decode cL_cell 4 = .ok (.iload_n 2, 1) := by decide +kernel
theorem dL_cell_5 : decode cL_cell 5 = .ok (.invokevirtual 20, 3) := by decide +kernel
theorem dL_cell_8 : decode cL_cell 8 = .ok (.i2l, 1) := by decide +kernel
theorem dL_cell_9 : decode cL_cell 9 = .ok (.lastore, 1) := by decide +kernel
theorem dL_cell_10 : decode cL_cell 10 = .ok (.goto 7, 3) := by decide +kernel
theorem dL_cell_13 : decode cL_cell 13 = .ok (.astore 4, 2) := by decide +kernel
theorem dL_cell_15 : decode cL_cell 15 = .ok (.iconst 1, 1) := by decide +kernel
theorem dL_cell_16 : decode cL_cell 16 = .ok (.ireturn, 1) := by decide +kernel
theorem dL_cell_17 : decode cL_cell 17 = .ok (.iconst 0, 1) := by decide +kernel
theorem dL_cell_18 : decode cL_cell 18 = .ok (.ireturn, 1) := by decide +kernel
theorem dL_along_0 : decode cL_along 0 = .ok (.aload_n 3, 1) := by decide +kernel
theorem dL_along_1 : decode cL_along 1 = .ok (.iconst 0, 1) := by decide +kernel
theorem dL_along_2 : decode cL_along 2 = .ok (.aload_n 0, 1) := by decide +kernel
theorem dL_along_3 : decode cL_along 3 = .ok (.iload_n 1, 1) := by decide +kernel
theorem dL_along_4 : decode cL_along 4 = .ok (.iload_n 2, 1) := by decide +kernel
theorem dL_along_5 : decode cL_along 5 = .ok (.invokevirtual 24, 3) := by decide +kernel
theorem dL_along_8 : decode cL_along 8 = .ok (.i2l, 1) := by decide +kernel
theorem dL_along_9 : decode cL_along 9 = .ok (.lastore, 1) := by decide +kernel
theorem dL_along_10 : decode cL_along 10 = .ok (.goto 7, 3) := by decide +kernel
theorem dL_along_13 : decode cL_along 13 = .ok (.astore 4, 2) := by decide +kernel
theorem dL_along_15 : decode cL_along 15 = .ok (.iconst 1, 1) := by decide +kernel
theorem dL_along_16 : decode cL_along 16 = .ok (.ireturn, 1) := by decide +kernel
theorem dL_along_17 : decode cL_along 17 = .ok (.iconst 0, 1) := by decide +kernel
theorem dL_along_18 : decode cL_along 18 = .ok (.ireturn, 1) := by decide +kernel
theorem dL_right_0 : decode cL_right 0 = .ok (.aload_n 3, 1) := by decide +kernel
theorem dL_right_1 : decode cL_right 1 = .ok (.iconst 0, 1) := by decide +kernel
theorem dL_right_2 : decode cL_right 2 = .ok (.aload_n 0, 1) := by decide +kernel
theorem dL_right_3 : decode cL_right 3 = .ok (.iload_n 1, 1) := by decide +kernel
theorem dL_right_4 : decode cL_right 4 = .ok (.iload_n 2, 1) := by decide +kernel
theorem dL_right_5 : decode cL_right 5 = .ok (.invokevirtual 27, 3) := by decide +kernel
theorem dL_right_8 : decode cL_right 8 = .ok (.i2l, 1) := by decide +kernel
theorem dL_right_9 : decode cL_right 9 = .ok (.lastore, 1) := by decide +kernel
theorem dL_right_10 : decode cL_right 10 = .ok (.goto 7, 3) := by decide +kernel
theorem dL_right_13 : decode cL_right 13 = .ok (.astore 4, 2) := by decide +kernel
theorem dL_right_15 : decode cL_right 15 = .ok (.iconst 1, 1) := by decide +kernel
theorem dL_right_16 : decode cL_right 16 = .ok (.ireturn, 1) := by decide +kernel
theorem dL_right_17 : decode cL_right 17 = .ok (.iconst 0, 1) := by decide +kernel
theorem dL_right_18 : decode cL_right 18 = .ok (.ireturn, 1) := by decide +kernel
theorem dL_plan_0 : decode cL_plan 0 = .ok (.aload 4, 2) := by decide +kernel
theorem dL_plan_2 : decode cL_plan 2 = .ok (.iconst 0, 1) := by decide +kernel
theorem dL_plan_3 : decode cL_plan 3 = .ok (.aload_n 0, 1) := by decide +kernel
theorem dL_plan_4 : decode cL_plan 4 = .ok (.iload_n 1, 1) := by decide +kernel
theorem dL_plan_5 : decode cL_plan 5 = .ok (.iload_n 2, 1) := by decide +kernel
theorem dL_plan_6 : decode cL_plan 6 = .ok (.iload_n 3, 1) := by decide +kernel
theorem dL_plan_7 : decode cL_plan 7 = .ok (.invokevirtual 30, 3) := by decide +kernel
theorem dL_plan_10 : decode cL_plan 10 = .ok (.i2l, 1) := by decide +kernel
theorem dL_plan_11 : decode cL_plan 11 = .ok (.lastore, 1) := by decide +kernel
theorem dL_plan_12 : decode cL_plan 12 = .ok (.goto 7, 3) := by decide +kernel
theorem dL_plan_15 : decode cL_plan 15 = .ok (.astore 5, 2) := by decide +kernel
theorem dL_plan_17 : decode cL_plan 17 = .ok (.iconst 1, 1) := by decide +kernel
theorem dL_plan_18 : decode cL_plan 18 = .ok (.ireturn, 1) := by decide +kernel
theorem dL_plan_19 : decode cL_plan 19 = .ok (.iconst 0, 1) := by decide +kernel
theorem dL_plan_20 : decode cL_plan 20 = .ok (.ireturn, 1) := by decide +kernel
theorem dL_goes_0 : decode cL_goes 0 = .ok (.aload 5, 2) := by decide +kernel
theorem dL_goes_2 : decode cL_goes 2 = .ok (.iconst 0, 1) := by decide +kernel
theorem dL_goes_3 : decode cL_goes 3 = .ok (.aload_n 0, 1) := by decide +kernel
theorem dL_goes_4 : decode cL_goes 4 = .ok (.iload_n 1, 1) := by decide +kernel
theorem dL_goes_5 : decode cL_goes 5 = .ok (.iload_n 2, 1) := by decide +kernel
theorem dL_goes_6 : decode cL_goes 6 = .ok (.iload_n 3, 1) := by decide +kernel
theorem dL_goes_7 : decode cL_goes 7 = .ok (.iload 4, 2) := by decide +kernel
theorem dL_goes_9 : decode cL_goes 9 = .ok (.invokevirtual 34, 3) := by decide +kernel
theorem dL_goes_12 : decode cL_goes 12 = .ok (.i2l, 1) := by decide +kernel
theorem dL_goes_13 : decode cL_goes 13 = .ok (.lastore, 1) := by decide +kernel
theorem dL_goes_14 : decode cL_goes 14 = .ok (.goto 7, 3) := by decide +kernel
theorem dL_goes_17 : decode cL_goes 17 = .ok (.astore 6, 2) := by decide +kernel
theorem dL_goes_19 : decode cL_goes 19 = .ok (.iconst 1, 1) := by decide +kernel
theorem dL_goes_20 : decode cL_goes 20 = .ok (.ireturn, 1) := by decide +kernel
theorem dL_goes_21 : decode cL_goes 21 = .ok (.iconst 0, 1) := by decide +kernel
theorem dL_goes_22 : decode cL_goes 22 = .ok (.ireturn, 1) := by decide +kernel
theorem dL_wrongPaths_0 : decode cL_wrongPaths 0 = .ok (.aload_n 2, 1) := by decide +kernel
theorem dL_wrongPaths_1 : decode cL_wrongPaths 1 = .ok (.iconst 0, 1) := by decide +kernel
theorem dL_wrongPaths_2 : decode cL_wrongPaths 2 = .ok (.aload_n 0, 1) := by decide +kernel
theorem dL_wrongPaths_3 : decode cL_wrongPaths 3 = .ok (.iload_n 1, 1) := by decide +kernel
theorem dL_wrongPaths_4 : decode cL_wrongPaths 4 = .ok (.invokevirtual 38, 3) := by decide +kernel
theorem dL_wrongPaths_7 : decode cL_wrongPaths 7 = .ok (.i2l, 1) := by decide +kernel
theorem dL_wrongPaths_8 : decode cL_wrongPaths 8 = .ok (.lastore, 1) := by decide +kernel
theorem dL_wrongPaths_9 : decode cL_wrongPaths 9 = .ok (.goto 6, 3) := by decide +kernel
theorem dL_wrongPaths_12 : decode cL_wrongPaths 12 = .ok (.astore_n 3, 1) := by decide +kernel
theorem dL_wrongPaths_13 : decode cL_wrongPaths 13 = .ok (.iconst 1, 1) := by decide +kernel
theorem dL_wrongPaths_14 : decode cL_wrongPaths 14 = .ok (.ireturn, 1) := by decide +kernel
theorem dL_wrongPaths_15 : decode cL_wrongPaths 15 = .ok (.iconst 0, 1) := by decide +kernel
theorem dL_wrongPaths_16 : decode cL_wrongPaths 16 = .ok (.ireturn, 1) := by decide +kernel
theorem dL_cheapest_0 : decode cL_cheapest 0 = .ok (.aload_n 3, 1) := by decide +kernel
theorem dL_cheapest_1 : decode cL_cheapest 1 = .ok (.iconst 0, 1) := by decide +kernel
theorem dL_cheapest_2 : decode cL_cheapest 2 = .ok (.aload_n 0, 1) := by decide +kernel
theorem dL_cheapest_3 : decode cL_cheapest 3 = .ok (.iload_n 1, 1) := by decide +kernel
theorem dL_cheapest_4 : decode cL_cheapest 4 = .ok (.iload_n 2, 1) := by decide +kernel
theorem dL_cheapest_5 : decode cL_cheapest 5 = .ok (.invokevirtual 41, 3) := by decide +kernel
theorem dL_cheapest_8 : decode cL_cheapest 8 = .ok (.i2l, 1) := by decide +kernel
theorem dL_cheapest_9 : decode cL_cheapest 9 = .ok (.lastore, 1) := by decide +kernel
theorem dL_cheapest_10 : decode cL_cheapest 10 = .ok (.goto 7, 3) := by decide +kernel
theorem dL_cheapest_13 : decode cL_cheapest 13 = .ok (.astore 4, 2) := by decide +kernel
theorem dL_cheapest_15 : decode cL_cheapest 15 = .ok (.iconst 1, 1) := by decide +kernel
theorem dL_cheapest_16 : decode cL_cheapest 16 = .ok (.ireturn, 1) := by decide +kernel
theorem dL_cheapest_17 : decode cL_cheapest 17 = .ok (.iconst 0, 1) := by decide +kernel
theorem dL_cheapest_18 : decode cL_cheapest 18 = .ok (.ireturn, 1) := by decide +kernel
theorem dL_clashes_0 : decode cL_clashes 0 = .ok (.aload_n 2, 1) := by decide +kernel
theorem dL_clashes_1 : decode cL_clashes 1 = .ok (.iconst 0, 1) := by decide +kernel
theorem dL_clashes_2 : decode cL_clashes 2 = .ok (.aload_n 0, 1) := by decide +kernel
theorem dL_clashes_3 : decode cL_clashes 3 = .ok (.iload_n 1, 1) := by decide +kernel
theorem dL_clashes_4 : decode cL_clashes 4 = .ok (.invokevirtual 44, 3) := by decide +kernel
theorem dL_clashes_7 : decode cL_clashes 7 = .ok (.i2l, 1) := by decide +kernel
theorem dL_clashes_8 : decode cL_clashes 8 = .ok (.lastore, 1) := by decide +kernel
theorem dL_clashes_9 : decode cL_clashes 9 = .ok (.goto 6, 3) := by decide +kernel
theorem dL_clashes_12 : decode cL_clashes 12 = .ok (.astore_n 3, 1) := by decide +kernel
theorem dL_clashes_13 : decode cL_clashes 13 = .ok (.iconst 1, 1) := by decide +kernel
theorem dL_clashes_14 : decode cL_clashes 14 = .ok (.ireturn, 1) := by decide +kernel
theorem dL_clashes_15 : decode cL_clashes 15 = .ok (.iconst 0, 1) := by decide +kernel
theorem dL_clashes_16 : decode cL_clashes 16 = .ok (.ireturn, 1) := by decide +kernel
theorem dL_order_0 : decode cL_order 0 = .ok (.aload_n 3, 1) := by decide +kernel
theorem dL_order_1 : decode cL_order 1 = .ok (.iconst 0, 1) := by decide +kernel
theorem dL_order_2 : decode cL_order 2 = .ok (.aload_n 0, 1) := by decide +kernel
theorem dL_order_3 : decode cL_order 3 = .ok (.iload_n 1, 1) := by decide +kernel
theorem dL_order_4 : decode cL_order 4 = .ok (.iload_n 2, 1) := by decide +kernel
theorem dL_order_5 : decode cL_order 5 = .ok (.invokevirtual 47, 3) := by decide +kernel
theorem dL_order_8 : decode cL_order 8 = .ok (.i2l, 1) := by decide +kernel
theorem dL_order_9 : decode cL_order 9 = .ok (.lastore, 1) := by decide +kernel
theorem dL_order_10 : decode cL_order 10 = .ok (.goto 7, 3) := by decide +kernel
theorem dL_order_13 : decode cL_order 13 = .ok (.astore 4, 2) := by decide +kernel
theorem dL_order_15 : decode cL_order 15 = .ok (.iconst 1, 1) := by decide +kernel
theorem dL_order_16 : decode cL_order 16 = .ok (.ireturn, 1) := by decide +kernel
theorem dL_order_17 : decode cL_order 17 = .ok (.iconst 0, 1) := by decide +kernel
theorem dL_order_18 : decode cL_order 18 = .ok (.ireturn, 1) := by decide +kernel
theorem dL_run_0 : decode cL_run 0 = .ok (.aload_n 2, 1) := by decide +kernel
theorem dL_run_1 : decode cL_run 1 = .ok (.iconst 0, 1) := by decide +kernel
theorem dL_run_2 : decode cL_run 2 = .ok (.aload_n 0, 1) := by decide +kernel
theorem dL_run_3 : decode cL_run 3 = .ok (.iload_n 1, 1) := by decide +kernel
theorem dL_run_4 : decode cL_run 4 = .ok (.invokevirtual 50, 3) := by decide +kernel
theorem dL_run_7 : decode cL_run 7 = .ok (.i2l, 1) := by decide +kernel
theorem dL_run_8 : decode cL_run 8 = .ok (.lastore, 1) := by decide +kernel
theorem dL_run_9 : decode cL_run 9 = .ok (.goto 6, 3) := by decide +kernel
theorem dL_run_12 : decode cL_run 12 = .ok (.astore_n 3, 1) := by decide +kernel
theorem dL_run_13 : decode cL_run 13 = .ok (.iconst 1, 1) := by decide +kernel
theorem dL_run_14 : decode cL_run 14 = .ok (.ireturn, 1) := by decide +kernel
theorem dL_run_15 : decode cL_run 15 = .ok (.iconst 0, 1) := by decide +kernel
theorem dL_run_16 : decode cL_run 16 = .ok (.ireturn, 1) := by decide +kernel
theorem dL_lay_0 : decode cL_lay 0 = .ok (.aload 4, 2) := by decide +kernel
theorem dL_lay_2 : decode cL_lay 2 = .ok (.iconst 0, 1) := by decide +kernel
theorem dL_lay_3 : decode cL_lay 3 = .ok (.aload_n 0, 1) := by decide +kernel
theorem dL_lay_4 : decode cL_lay 4 = .ok (.iload_n 1, 1) := by decide +kernel
theorem dL_lay_5 : decode cL_lay 5 = .ok (.iload_n 2, 1) := by decide +kernel
theorem dL_lay_6 : decode cL_lay 6 = .ok (.iload_n 3, 1) := by decide +kernel
theorem dL_lay_7 : decode cL_lay 7 = .ok (.invokevirtual 53, 3) := by decide +kernel
theorem dL_lay_10 : decode cL_lay 10 = .ok (.i2l, 1) := by decide +kernel
theorem dL_lay_11 : decode cL_lay 11 = .ok (.lastore, 1) := by decide +kernel
theorem dL_lay_12 : decode cL_lay 12 = .ok (.goto 7, 3) := by decide +kernel
theorem dL_lay_15 : decode cL_lay 15 = .ok (.astore 5, 2) := by decide +kernel
theorem dL_lay_17 : decode cL_lay 17 = .ok (.iconst 1, 1) := by decide +kernel
theorem dL_lay_18 : decode cL_lay 18 = .ok (.ireturn, 1) := by decide +kernel
theorem dL_lay_19 : decode cL_lay 19 = .ok (.iconst 0, 1) := by decide +kernel
theorem dL_lay_20 : decode cL_lay 20 = .ok (.ireturn, 1) := by decide +kernel
theorem dL_take_0 : decode cL_take 0 = .ok (.aload_n 2, 1) := by decide +kernel
theorem dL_take_1 : decode cL_take 1 = .ok (.iconst 0, 1) := by decide +kernel
theorem dL_take_2 : decode cL_take 2 = .ok (.aload_n 0, 1) := by decide +kernel
theorem dL_take_3 : decode cL_take 3 = .ok (.iload_n 1, 1) := by decide +kernel
theorem dL_take_4 : decode cL_take 4 = .ok (.invokevirtual 56, 3) := by decide +kernel
theorem dL_take_7 : decode cL_take 7 = .ok (.i2l, 1) := by decide +kernel
theorem dL_take_8 : decode cL_take 8 = .ok (.lastore, 1) := by decide +kernel
theorem dL_take_9 : decode cL_take 9 = .ok (.goto 6, 3) := by decide +kernel
theorem dL_take_12 : decode cL_take 12 = .ok (.astore_n 3, 1) := by decide +kernel
theorem dL_take_13 : decode cL_take 13 = .ok (.iconst 1, 1) := by decide +kernel
theorem dL_take_14 : decode cL_take 14 = .ok (.ireturn, 1) := by decide +kernel
theorem dL_take_15 : decode cL_take 15 = .ok (.iconst 0, 1) := by decide +kernel
theorem dL_take_16 : decode cL_take 16 = .ok (.ireturn, 1) := by decide +kernel
theorem dL_look_0 : decode cL_look 0 = .ok (.aload_n 2, 1) := by decide +kernel
theorem dL_look_1 : decode cL_look 1 = .ok (.iconst 0, 1) := by decide +kernel
theorem dL_look_2 : decode cL_look 2 = .ok (.aload_n 0, 1) := by decide +kernel
theorem dL_look_3 : decode cL_look 3 = .ok (.iload_n 1, 1) := by decide +kernel
theorem dL_look_4 : decode cL_look 4 = .ok (.invokevirtual 59, 3) := by decide +kernel
theorem dL_look_7 : decode cL_look 7 = .ok (.i2l, 1) := by decide +kernel
theorem dL_look_8 : decode cL_look 8 = .ok (.lastore, 1) := by decide +kernel
theorem dL_look_9 : decode cL_look 9 = .ok (.goto 6, 3) := by decide +kernel
theorem dL_look_12 : decode cL_look 12 = .ok (.astore_n 3, 1) := by decide +kernel
theorem dL_look_13 : decode cL_look 13 = .ok (.iconst 1, 1) := by decide +kernel
theorem dL_look_14 : decode cL_look 14 = .ok (.ireturn, 1) := by decide +kernel
theorem dL_look_15 : decode cL_look 15 = .ok (.iconst 0, 1) := by decide +kernel
theorem dL_look_16 : decode cL_look 16 = .ok (.ireturn, 1) := by decide +kernel
theorem dL_years_0 : decode cL_years 0 = .ok (.aload 4, 2) := by decide +kernel
theorem dL_years_2 : decode cL_years 2 = .ok (.iconst 0, 1) := by decide +kernel
theorem dL_years_3 : decode cL_years 3 = .ok (.aload_n 0, 1) := by decide +kernel
theorem dL_years_4 : decode cL_years 4 = .ok (.iload_n 1, 1) := by decide +kernel
theorem dL_years_5 : decode cL_years 5 = .ok (.iload_n 2, 1) := by decide +kernel
theorem dL_years_6 : decode cL_years 6 = .ok (.iload_n 3, 1) := by decide +kernel
theorem dL_years_7 : decode cL_years 7 = .ok (.invokevirtual 62, 3) := by decide +kernel
theorem dL_years_10 : decode cL_years 10 = .ok (.i2l, 1) := by decide +kernel
theorem dL_years_11 : decode cL_years 11 = .ok (.lastore, 1) := by decide +kernel
theorem dL_years_12 : decode cL_years 12 = .ok (.goto 11, 3) := by decide +kernel
theorem dL_years_15 : decode cL_years 15 = .ok (.astore 5, 2) := by decide +kernel
theorem dL_years_17 : decode cL_years 17 = .ok (.iconst 1, 1) := by decide +kernel
theorem dL_years_18 : decode cL_years 18 = .ok (.ireturn, 1) := by decide +kernel
theorem dL_years_19 : decode cL_years 19 = .ok (.astore 5, 2) := by decide +kernel
theorem dL_years_21 : decode cL_years 21 = .ok (.iconst 2, 1) := by decide +kernel
theorem dL_years_22 : decode cL_years 22 = .ok (.ireturn, 1) := by decide +kernel
theorem dL_years_23 : decode cL_years 23 = .ok (.iconst 0, 1) := by decide +kernel
theorem dL_years_24 : decode cL_years 24 = .ok (.ireturn, 1) := by decide +kernel
