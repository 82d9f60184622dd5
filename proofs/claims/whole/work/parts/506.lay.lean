/-! How the cells lie: kinds, lengths, references. Written by wip/whole/mk506.py. -/
def refL : List (Nat × Nat × Nat) := [(0, 0, 1), (0, 3, 109), (0, 6, 82), (0, 7, 92), (0, 9, 113), (0, 10, 121), (0, 11, 102), (0, 12, 104), (0, 13, 105), (0, 14, 107), (0, 15, 108), (2, 1, 3), (2, 3, 5), (2, 4, 6), (2, 7, 7), (2, 9, 8), (2, 10, 9), (2, 12, 12), (2, 13, 13), (2, 14, 14), (2, 16, 15), (2, 18, 16), (2, 19, 17), (3, 0, 4), (8, 0, 18), (8, 1, 21), (8, 2, 24), (8, 3, 27), (8, 4, 30), (8, 5, 33), (8, 6, 36), (8, 7, 39), (9, 5, 10), (9, 6, 11), (18, 5, 19), (18, 6, 20), (21, 5, 22), (21, 6, 23), (24, 5, 25), (24, 6, 26), (27, 5, 28), (27, 6, 29), (30, 5, 31), (30, 6, 32), (33, 5, 34), (33, 6, 35), (36, 5, 37), (36, 6, 38), (39, 5, 40), (39, 6, 41), (42, 1, 43), (42, 3, 45), (42, 4, 46), (42, 7, 47), (42, 9, 48), (42, 10, 49), (42, 12, 52), (42, 13, 53), (42, 14, 54), (42, 16, 55), (42, 18, 56), (42, 19, 57), (43, 0, 44), (48, 0, 58), (48, 1, 61), (48, 2, 64), (48, 3, 67), (48, 4, 70), (48, 5, 73), (48, 6, 76), (48, 7, 79), (49, 5, 50), (49, 6, 51), (58, 5, 59), (58, 6, 60), (61, 5, 62), (61, 6, 63), (64, 5, 65), (64, 6, 66), (67, 5, 68), (67, 6, 69), (70, 5, 71), (70, 6, 72), (73, 5, 74), (73, 6, 75), (76, 5, 77), (76, 6, 78), (79, 5, 80), (79, 6, 81), (82, 0, 83), (82, 1, 85), (82, 2, 88), (82, 3, 89), (82, 4, 90), (82, 6, 91), (83, 0, 84), (85, 0, 86), (85, 1, 87), (92, 0, 93), (92, 1, 95), (92, 2, 98), (92, 3, 99), (92, 4, 100), (92, 6, 101), (93, 0, 94), (95, 0, 96), (95, 1, 97), (102, 0, 103), (105, 0, 106), (107, 0, 129), (107, 1, 131), (107, 2, 133), (107, 3, 135), (107, 4, 137), (107, 5, 139), (107, 6, 141), (107, 7, 143), (109, 0, 110), (109, 1, 111), (109, 2, 112), (113, 0, 114), (113, 1, 116), (113, 2, 117), (113, 3, 118), (113, 4, 119), (113, 5, 120), (114, 0, 115), (121, 0, 122), (121, 1, 124), (121, 2, 125), (121, 3, 126), (121, 4, 127), (121, 5, 128), (122, 0, 123), (129, 0, 130), (131, 0, 132), (133, 0, 134), (135, 0, 136), (137, 0, 138), (139, 0, 140), (141, 0, 142), (143, 0, 144), (145, 0, 146), (145, 1, 147), (145, 2, 148), (145, 3, 149), (145, 4, 150), (145, 13, 151), (145, 14, 152), (145, 15, 153), (145, 16, 154), (145, 17, 155), (145, 18, 156), (145, 19, 157), (145, 20, 158), (145, 21, 159), (145, 22, 160), (145, 23, 161), (145, 24, 162), (145, 25, 163), (145, 26, 164), (145, 27, 165), (145, 28, 166), (145, 29, 167), (145, 30, 168), (145, 31, 169), (145, 32, 170), (145, 33, 171), (145, 34, 172), (145, 35, 173), (145, 36, 174), (145, 37, 175), (145, 38, 176), (145, 39, 177), (145, 42, 178), (145, 52, 179), (145, 57, 180), (145, 58, 181), (145, 70, 182), (145, 71, 183), (145, 72, 184), (145, 73, 185), (145, 74, 186), (145, 75, 187), (145, 77, 188), (145, 78, 189), (145, 79, 190), (145, 81, 191), (145, 82, 192), (145, 84, 193), (145, 85, 194), (145, 86, 195), (145, 87, 196), (145, 88, 197)]
def PInv (C : AmC) : Prop := ∀ q, q ∈ refL → cP C q.1 q.2.1 = some q.2.2
theorem PInv.of {C C1 : AmC} (h : PInv C) (e : cP C1 = cP C) : PInv C1 := fun q hq => by rw [e]; exact h q hq
theorem PInv.at {C : AmC} (h : PInv C) {a j v : Nat} (i : Nat) (e : refL[i]? = some (a, j, v)) : cP C a j = some v := h (a, j, v) (List.mem_of_getElem? e)
theorem w_0_0 {C : AmC} (h : PInv C) : cP C 0 0 = some 1 := h.at 0 rfl
theorem w_0_3 {C : AmC} (h : PInv C) : cP C 0 3 = some 109 := h.at 1 rfl
theorem w_0_6 {C : AmC} (h : PInv C) : cP C 0 6 = some 82 := h.at 2 rfl
theorem w_0_7 {C : AmC} (h : PInv C) : cP C 0 7 = some 92 := h.at 3 rfl
theorem w_0_9 {C : AmC} (h : PInv C) : cP C 0 9 = some 113 := h.at 4 rfl
theorem w_0_10 {C : AmC} (h : PInv C) : cP C 0 10 = some 121 := h.at 5 rfl
theorem w_0_11 {C : AmC} (h : PInv C) : cP C 0 11 = some 102 := h.at 6 rfl
theorem w_0_12 {C : AmC} (h : PInv C) : cP C 0 12 = some 104 := h.at 7 rfl
theorem w_0_13 {C : AmC} (h : PInv C) : cP C 0 13 = some 105 := h.at 8 rfl
theorem w_0_14 {C : AmC} (h : PInv C) : cP C 0 14 = some 107 := h.at 9 rfl
theorem w_0_15 {C : AmC} (h : PInv C) : cP C 0 15 = some 108 := h.at 10 rfl
theorem w_2_1 {C : AmC} (h : PInv C) : cP C 2 1 = some 3 := h.at 11 rfl
theorem w_2_3 {C : AmC} (h : PInv C) : cP C 2 3 = some 5 := h.at 12 rfl
theorem w_2_4 {C : AmC} (h : PInv C) : cP C 2 4 = some 6 := h.at 13 rfl
theorem w_2_7 {C : AmC} (h : PInv C) : cP C 2 7 = some 7 := h.at 14 rfl
theorem w_2_9 {C : AmC} (h : PInv C) : cP C 2 9 = some 8 := h.at 15 rfl
theorem w_2_10 {C : AmC} (h : PInv C) : cP C 2 10 = some 9 := h.at 16 rfl
theorem w_2_12 {C : AmC} (h : PInv C) : cP C 2 12 = some 12 := h.at 17 rfl
theorem w_2_13 {C : AmC} (h : PInv C) : cP C 2 13 = some 13 := h.at 18 rfl
theorem w_2_14 {C : AmC} (h : PInv C) : cP C 2 14 = some 14 := h.at 19 rfl
theorem w_2_16 {C : AmC} (h : PInv C) : cP C 2 16 = some 15 := h.at 20 rfl
theorem w_2_18 {C : AmC} (h : PInv C) : cP C 2 18 = some 16 := h.at 21 rfl
theorem w_2_19 {C : AmC} (h : PInv C) : cP C 2 19 = some 17 := h.at 22 rfl
theorem w_3_0 {C : AmC} (h : PInv C) : cP C 3 0 = some 4 := h.at 23 rfl
theorem w_8_0 {C : AmC} (h : PInv C) : cP C 8 0 = some 18 := h.at 24 rfl
theorem w_8_1 {C : AmC} (h : PInv C) : cP C 8 1 = some 21 := h.at 25 rfl
theorem w_8_2 {C : AmC} (h : PInv C) : cP C 8 2 = some 24 := h.at 26 rfl
theorem w_8_3 {C : AmC} (h : PInv C) : cP C 8 3 = some 27 := h.at 27 rfl
theorem w_8_4 {C : AmC} (h : PInv C) : cP C 8 4 = some 30 := h.at 28 rfl
theorem w_8_5 {C : AmC} (h : PInv C) : cP C 8 5 = some 33 := h.at 29 rfl
theorem w_8_6 {C : AmC} (h : PInv C) : cP C 8 6 = some 36 := h.at 30 rfl
theorem w_8_7 {C : AmC} (h : PInv C) : cP C 8 7 = some 39 := h.at 31 rfl
theorem w_9_5 {C : AmC} (h : PInv C) : cP C 9 5 = some 10 := h.at 32 rfl
theorem w_9_6 {C : AmC} (h : PInv C) : cP C 9 6 = some 11 := h.at 33 rfl
theorem w_18_5 {C : AmC} (h : PInv C) : cP C 18 5 = some 19 := h.at 34 rfl
theorem w_18_6 {C : AmC} (h : PInv C) : cP C 18 6 = some 20 := h.at 35 rfl
theorem w_21_5 {C : AmC} (h : PInv C) : cP C 21 5 = some 22 := h.at 36 rfl
theorem w_21_6 {C : AmC} (h : PInv C) : cP C 21 6 = some 23 := h.at 37 rfl
theorem w_24_5 {C : AmC} (h : PInv C) : cP C 24 5 = some 25 := h.at 38 rfl
theorem w_24_6 {C : AmC} (h : PInv C) : cP C 24 6 = some 26 := h.at 39 rfl
theorem w_27_5 {C : AmC} (h : PInv C) : cP C 27 5 = some 28 := h.at 40 rfl
theorem w_27_6 {C : AmC} (h : PInv C) : cP C 27 6 = some 29 := h.at 41 rfl
theorem w_30_5 {C : AmC} (h : PInv C) : cP C 30 5 = some 31 := h.at 42 rfl
theorem w_30_6 {C : AmC} (h : PInv C) : cP C 30 6 = some 32 := h.at 43 rfl
theorem w_33_5 {C : AmC} (h : PInv C) : cP C 33 5 = some 34 := h.at 44 rfl
theorem w_33_6 {C : AmC} (h : PInv C) : cP C 33 6 = some 35 := h.at 45 rfl
theorem w_36_5 {C : AmC} (h : PInv C) : cP C 36 5 = some 37 := h.at 46 rfl
theorem w_36_6 {C : AmC} (h : PInv C) : cP C 36 6 = some 38 := h.at 47 rfl
theorem w_39_5 {C : AmC} (h : PInv C) : cP C 39 5 = some 40 := h.at 48 rfl
theorem w_39_6 {C : AmC} (h : PInv C) : cP C 39 6 = some 41 := h.at 49 rfl
theorem w_42_1 {C : AmC} (h : PInv C) : cP C 42 1 = some 43 := h.at 50 rfl
theorem w_42_3 {C : AmC} (h : PInv C) : cP C 42 3 = some 45 := h.at 51 rfl
theorem w_42_4 {C : AmC} (h : PInv C) : cP C 42 4 = some 46 := h.at 52 rfl
theorem w_42_7 {C : AmC} (h : PInv C) : cP C 42 7 = some 47 := h.at 53 rfl
theorem w_42_9 {C : AmC} (h : PInv C) : cP C 42 9 = some 48 := h.at 54 rfl
theorem w_42_10 {C : AmC} (h : PInv C) : cP C 42 10 = some 49 := h.at 55 rfl
theorem w_42_12 {C : AmC} (h : PInv C) : cP C 42 12 = some 52 := h.at 56 rfl
theorem w_42_13 {C : AmC} (h : PInv C) : cP C 42 13 = some 53 := h.at 57 rfl
theorem w_42_14 {C : AmC} (h : PInv C) : cP C 42 14 = some 54 := h.at 58 rfl
theorem w_42_16 {C : AmC} (h : PInv C) : cP C 42 16 = some 55 := h.at 59 rfl
theorem w_42_18 {C : AmC} (h : PInv C) : cP C 42 18 = some 56 := h.at 60 rfl
theorem w_42_19 {C : AmC} (h : PInv C) : cP C 42 19 = some 57 := h.at 61 rfl
theorem w_43_0 {C : AmC} (h : PInv C) : cP C 43 0 = some 44 := h.at 62 rfl
theorem w_48_0 {C : AmC} (h : PInv C) : cP C 48 0 = some 58 := h.at 63 rfl
theorem w_48_1 {C : AmC} (h : PInv C) : cP C 48 1 = some 61 := h.at 64 rfl
theorem w_48_2 {C : AmC} (h : PInv C) : cP C 48 2 = some 64 := h.at 65 rfl
theorem w_48_3 {C : AmC} (h : PInv C) : cP C 48 3 = some 67 := h.at 66 rfl
theorem w_48_4 {C : AmC} (h : PInv C) : cP C 48 4 = some 70 := h.at 67 rfl
theorem w_48_5 {C : AmC} (h : PInv C) : cP C 48 5 = some 73 := h.at 68 rfl
theorem w_48_6 {C : AmC} (h : PInv C) : cP C 48 6 = some 76 := h.at 69 rfl
theorem w_48_7 {C : AmC} (h : PInv C) : cP C 48 7 = some 79 := h.at 70 rfl
theorem w_49_5 {C : AmC} (h : PInv C) : cP C 49 5 = some 50 := h.at 71 rfl
theorem w_49_6 {C : AmC} (h : PInv C) : cP C 49 6 = some 51 := h.at 72 rfl
theorem w_58_5 {C : AmC} (h : PInv C) : cP C 58 5 = some 59 := h.at 73 rfl
theorem w_58_6 {C : AmC} (h : PInv C) : cP C 58 6 = some 60 := h.at 74 rfl
theorem w_61_5 {C : AmC} (h : PInv C) : cP C 61 5 = some 62 := h.at 75 rfl
theorem w_61_6 {C : AmC} (h : PInv C) : cP C 61 6 = some 63 := h.at 76 rfl
theorem w_64_5 {C : AmC} (h : PInv C) : cP C 64 5 = some 65 := h.at 77 rfl
theorem w_64_6 {C : AmC} (h : PInv C) : cP C 64 6 = some 66 := h.at 78 rfl
theorem w_67_5 {C : AmC} (h : PInv C) : cP C 67 5 = some 68 := h.at 79 rfl
theorem w_67_6 {C : AmC} (h : PInv C) : cP C 67 6 = some 69 := h.at 80 rfl
theorem w_70_5 {C : AmC} (h : PInv C) : cP C 70 5 = some 71 := h.at 81 rfl
theorem w_70_6 {C : AmC} (h : PInv C) : cP C 70 6 = some 72 := h.at 82 rfl
theorem w_73_5 {C : AmC} (h : PInv C) : cP C 73 5 = some 74 := h.at 83 rfl
theorem w_73_6 {C : AmC} (h : PInv C) : cP C 73 6 = some 75 := h.at 84 rfl
theorem w_76_5 {C : AmC} (h : PInv C) : cP C 76 5 = some 77 := h.at 85 rfl
theorem w_76_6 {C : AmC} (h : PInv C) : cP C 76 6 = some 78 := h.at 86 rfl
theorem w_79_5 {C : AmC} (h : PInv C) : cP C 79 5 = some 80 := h.at 87 rfl
theorem w_79_6 {C : AmC} (h : PInv C) : cP C 79 6 = some 81 := h.at 88 rfl
theorem w_82_0 {C : AmC} (h : PInv C) : cP C 82 0 = some 83 := h.at 89 rfl
theorem w_82_1 {C : AmC} (h : PInv C) : cP C 82 1 = some 85 := h.at 90 rfl
theorem w_82_2 {C : AmC} (h : PInv C) : cP C 82 2 = some 88 := h.at 91 rfl
theorem w_82_3 {C : AmC} (h : PInv C) : cP C 82 3 = some 89 := h.at 92 rfl
theorem w_82_4 {C : AmC} (h : PInv C) : cP C 82 4 = some 90 := h.at 93 rfl
theorem w_82_6 {C : AmC} (h : PInv C) : cP C 82 6 = some 91 := h.at 94 rfl
theorem w_83_0 {C : AmC} (h : PInv C) : cP C 83 0 = some 84 := h.at 95 rfl
theorem w_85_0 {C : AmC} (h : PInv C) : cP C 85 0 = some 86 := h.at 96 rfl
theorem w_85_1 {C : AmC} (h : PInv C) : cP C 85 1 = some 87 := h.at 97 rfl
theorem w_92_0 {C : AmC} (h : PInv C) : cP C 92 0 = some 93 := h.at 98 rfl
theorem w_92_1 {C : AmC} (h : PInv C) : cP C 92 1 = some 95 := h.at 99 rfl
theorem w_92_2 {C : AmC} (h : PInv C) : cP C 92 2 = some 98 := h.at 100 rfl
theorem w_92_3 {C : AmC} (h : PInv C) : cP C 92 3 = some 99 := h.at 101 rfl
theorem w_92_4 {C : AmC} (h : PInv C) : cP C 92 4 = some 100 := h.at 102 rfl
theorem w_92_6 {C : AmC} (h : PInv C) : cP C 92 6 = some 101 := h.at 103 rfl
theorem w_93_0 {C : AmC} (h : PInv C) : cP C 93 0 = some 94 := h.at 104 rfl
theorem w_95_0 {C : AmC} (h : PInv C) : cP C 95 0 = some 96 := h.at 105 rfl
theorem w_95_1 {C : AmC} (h : PInv C) : cP C 95 1 = some 97 := h.at 106 rfl
theorem w_102_0 {C : AmC} (h : PInv C) : cP C 102 0 = some 103 := h.at 107 rfl
theorem w_105_0 {C : AmC} (h : PInv C) : cP C 105 0 = some 106 := h.at 108 rfl
theorem w_107_0 {C : AmC} (h : PInv C) : cP C 107 0 = some 129 := h.at 109 rfl
theorem w_107_1 {C : AmC} (h : PInv C) : cP C 107 1 = some 131 := h.at 110 rfl
theorem w_107_2 {C : AmC} (h : PInv C) : cP C 107 2 = some 133 := h.at 111 rfl
theorem w_107_3 {C : AmC} (h : PInv C) : cP C 107 3 = some 135 := h.at 112 rfl
theorem w_107_4 {C : AmC} (h : PInv C) : cP C 107 4 = some 137 := h.at 113 rfl
theorem w_107_5 {C : AmC} (h : PInv C) : cP C 107 5 = some 139 := h.at 114 rfl
theorem w_107_6 {C : AmC} (h : PInv C) : cP C 107 6 = some 141 := h.at 115 rfl
theorem w_107_7 {C : AmC} (h : PInv C) : cP C 107 7 = some 143 := h.at 116 rfl
theorem w_109_0 {C : AmC} (h : PInv C) : cP C 109 0 = some 110 := h.at 117 rfl
theorem w_109_1 {C : AmC} (h : PInv C) : cP C 109 1 = some 111 := h.at 118 rfl
theorem w_109_2 {C : AmC} (h : PInv C) : cP C 109 2 = some 112 := h.at 119 rfl
theorem w_113_0 {C : AmC} (h : PInv C) : cP C 113 0 = some 114 := h.at 120 rfl
theorem w_113_1 {C : AmC} (h : PInv C) : cP C 113 1 = some 116 := h.at 121 rfl
theorem w_113_2 {C : AmC} (h : PInv C) : cP C 113 2 = some 117 := h.at 122 rfl
theorem w_113_3 {C : AmC} (h : PInv C) : cP C 113 3 = some 118 := h.at 123 rfl
theorem w_113_4 {C : AmC} (h : PInv C) : cP C 113 4 = some 119 := h.at 124 rfl
theorem w_113_5 {C : AmC} (h : PInv C) : cP C 113 5 = some 120 := h.at 125 rfl
theorem w_114_0 {C : AmC} (h : PInv C) : cP C 114 0 = some 115 := h.at 126 rfl
theorem w_121_0 {C : AmC} (h : PInv C) : cP C 121 0 = some 122 := h.at 127 rfl
theorem w_121_1 {C : AmC} (h : PInv C) : cP C 121 1 = some 124 := h.at 128 rfl
theorem w_121_2 {C : AmC} (h : PInv C) : cP C 121 2 = some 125 := h.at 129 rfl
theorem w_121_3 {C : AmC} (h : PInv C) : cP C 121 3 = some 126 := h.at 130 rfl
theorem w_121_4 {C : AmC} (h : PInv C) : cP C 121 4 = some 127 := h.at 131 rfl
theorem w_121_5 {C : AmC} (h : PInv C) : cP C 121 5 = some 128 := h.at 132 rfl
theorem w_122_0 {C : AmC} (h : PInv C) : cP C 122 0 = some 123 := h.at 133 rfl
theorem w_129_0 {C : AmC} (h : PInv C) : cP C 129 0 = some 130 := h.at 134 rfl
theorem w_131_0 {C : AmC} (h : PInv C) : cP C 131 0 = some 132 := h.at 135 rfl
theorem w_133_0 {C : AmC} (h : PInv C) : cP C 133 0 = some 134 := h.at 136 rfl
theorem w_135_0 {C : AmC} (h : PInv C) : cP C 135 0 = some 136 := h.at 137 rfl
theorem w_137_0 {C : AmC} (h : PInv C) : cP C 137 0 = some 138 := h.at 138 rfl
theorem w_139_0 {C : AmC} (h : PInv C) : cP C 139 0 = some 140 := h.at 139 rfl
theorem w_141_0 {C : AmC} (h : PInv C) : cP C 141 0 = some 142 := h.at 140 rfl
theorem w_143_0 {C : AmC} (h : PInv C) : cP C 143 0 = some 144 := h.at 141 rfl
theorem w_145_0 {C : AmC} (h : PInv C) : cP C 145 0 = some 146 := h.at 142 rfl
theorem w_145_1 {C : AmC} (h : PInv C) : cP C 145 1 = some 147 := h.at 143 rfl
theorem w_145_2 {C : AmC} (h : PInv C) : cP C 145 2 = some 148 := h.at 144 rfl
theorem w_145_3 {C : AmC} (h : PInv C) : cP C 145 3 = some 149 := h.at 145 rfl
theorem w_145_4 {C : AmC} (h : PInv C) : cP C 145 4 = some 150 := h.at 146 rfl
theorem w_145_13 {C : AmC} (h : PInv C) : cP C 145 13 = some 151 := h.at 147 rfl
theorem w_145_14 {C : AmC} (h : PInv C) : cP C 145 14 = some 152 := h.at 148 rfl
theorem w_145_15 {C : AmC} (h : PInv C) : cP C 145 15 = some 153 := h.at 149 rfl
theorem w_145_16 {C : AmC} (h : PInv C) : cP C 145 16 = some 154 := h.at 150 rfl
theorem w_145_17 {C : AmC} (h : PInv C) : cP C 145 17 = some 155 := h.at 151 rfl
theorem w_145_18 {C : AmC} (h : PInv C) : cP C 145 18 = some 156 := h.at 152 rfl
theorem w_145_19 {C : AmC} (h : PInv C) : cP C 145 19 = some 157 := h.at 153 rfl
theorem w_145_20 {C : AmC} (h : PInv C) : cP C 145 20 = some 158 := h.at 154 rfl
theorem w_145_21 {C : AmC} (h : PInv C) : cP C 145 21 = some 159 := h.at 155 rfl
theorem w_145_22 {C : AmC} (h : PInv C) : cP C 145 22 = some 160 := h.at 156 rfl
theorem w_145_23 {C : AmC} (h : PInv C) : cP C 145 23 = some 161 := h.at 157 rfl
theorem w_145_24 {C : AmC} (h : PInv C) : cP C 145 24 = some 162 := h.at 158 rfl
theorem w_145_25 {C : AmC} (h : PInv C) : cP C 145 25 = some 163 := h.at 159 rfl
theorem w_145_26 {C : AmC} (h : PInv C) : cP C 145 26 = some 164 := h.at 160 rfl
theorem w_145_27 {C : AmC} (h : PInv C) : cP C 145 27 = some 165 := h.at 161 rfl
theorem w_145_28 {C : AmC} (h : PInv C) : cP C 145 28 = some 166 := h.at 162 rfl
theorem w_145_29 {C : AmC} (h : PInv C) : cP C 145 29 = some 167 := h.at 163 rfl
theorem w_145_30 {C : AmC} (h : PInv C) : cP C 145 30 = some 168 := h.at 164 rfl
theorem w_145_31 {C : AmC} (h : PInv C) : cP C 145 31 = some 169 := h.at 165 rfl
theorem w_145_32 {C : AmC} (h : PInv C) : cP C 145 32 = some 170 := h.at 166 rfl
theorem w_145_33 {C : AmC} (h : PInv C) : cP C 145 33 = some 171 := h.at 167 rfl
theorem w_145_34 {C : AmC} (h : PInv C) : cP C 145 34 = some 172 := h.at 168 rfl
theorem w_145_35 {C : AmC} (h : PInv C) : cP C 145 35 = some 173 := h.at 169 rfl
theorem w_145_36 {C : AmC} (h : PInv C) : cP C 145 36 = some 174 := h.at 170 rfl
theorem w_145_37 {C : AmC} (h : PInv C) : cP C 145 37 = some 175 := h.at 171 rfl
theorem w_145_38 {C : AmC} (h : PInv C) : cP C 145 38 = some 176 := h.at 172 rfl
theorem w_145_39 {C : AmC} (h : PInv C) : cP C 145 39 = some 177 := h.at 173 rfl
theorem w_145_42 {C : AmC} (h : PInv C) : cP C 145 42 = some 178 := h.at 174 rfl
theorem w_145_52 {C : AmC} (h : PInv C) : cP C 145 52 = some 179 := h.at 175 rfl
theorem w_145_57 {C : AmC} (h : PInv C) : cP C 145 57 = some 180 := h.at 176 rfl
theorem w_145_58 {C : AmC} (h : PInv C) : cP C 145 58 = some 181 := h.at 177 rfl
theorem w_145_70 {C : AmC} (h : PInv C) : cP C 145 70 = some 182 := h.at 178 rfl
theorem w_145_71 {C : AmC} (h : PInv C) : cP C 145 71 = some 183 := h.at 179 rfl
theorem w_145_72 {C : AmC} (h : PInv C) : cP C 145 72 = some 184 := h.at 180 rfl
theorem w_145_73 {C : AmC} (h : PInv C) : cP C 145 73 = some 185 := h.at 181 rfl
theorem w_145_74 {C : AmC} (h : PInv C) : cP C 145 74 = some 186 := h.at 182 rfl
theorem w_145_75 {C : AmC} (h : PInv C) : cP C 145 75 = some 187 := h.at 183 rfl
theorem w_145_77 {C : AmC} (h : PInv C) : cP C 145 77 = some 188 := h.at 184 rfl
theorem w_145_78 {C : AmC} (h : PInv C) : cP C 145 78 = some 189 := h.at 185 rfl
theorem w_145_79 {C : AmC} (h : PInv C) : cP C 145 79 = some 190 := h.at 186 rfl
theorem w_145_81 {C : AmC} (h : PInv C) : cP C 145 81 = some 191 := h.at 187 rfl
theorem w_145_82 {C : AmC} (h : PInv C) : cP C 145 82 = some 192 := h.at 188 rfl
theorem w_145_84 {C : AmC} (h : PInv C) : cP C 145 84 = some 193 := h.at 189 rfl
theorem w_145_85 {C : AmC} (h : PInv C) : cP C 145 85 = some 194 := h.at 190 rfl
theorem w_145_86 {C : AmC} (h : PInv C) : cP C 145 86 = some 195 := h.at 191 rfl
theorem w_145_87 {C : AmC} (h : PInv C) : cP C 145 87 = some 196 := h.at 192 rfl
theorem w_145_88 {C : AmC} (h : PInv C) : cP C 145 88 = some 197 := h.at 193 rfl
theorem k_0 : isK 0 9 = true := by decide
theorem k_1 : isK 1 11 = true := by decide
theorem l_1 : aLen 1 = 900 := rfl
theorem k_2 : isK 2 6 = true := by decide
theorem k_3 : isK 3 5 = true := by decide
theorem k_4 : isK 4 12 = true := by decide
theorem l_4 : aLen 4 = 120 := rfl
theorem k_5 : isK 5 12 = true := by decide
theorem l_5 : aLen 5 = 3 := rfl
theorem k_6 : isK 6 12 = true := by decide
theorem l_6 : aLen 6 = 3 := rfl
theorem k_7 : isK 7 12 = true := by decide
theorem l_7 : aLen 7 = 40 := rfl
theorem k_8 : isK 8 15 = true := by decide
theorem l_8 : aLen 8 = 8 := rfl
theorem k_9 : isK 9 8 = true := by decide
theorem k_10 : isK 10 12 = true := by decide
theorem l_10 : aLen 10 = 4 := rfl
theorem k_11 : isK 11 12 = true := by decide
theorem l_11 : aLen 11 = 4 := rfl
theorem k_12 : isK 12 12 = true := by decide
theorem l_12 : aLen 12 = 450 := rfl
theorem k_13 : isK 13 12 = true := by decide
theorem l_13 : aLen 13 = 450 := rfl
theorem k_14 : isK 14 12 = true := by decide
theorem l_14 : aLen 14 = 450 := rfl
theorem k_15 : isK 15 12 = true := by decide
theorem l_15 : aLen 15 = 451 := rfl
theorem k_16 : isK 16 12 = true := by decide
theorem l_16 : aLen 16 = 450 := rfl
theorem k_17 : isK 17 12 = true := by decide
theorem l_17 : aLen 17 = 450 := rfl
theorem k_18 : isK 18 8 = true := by decide
theorem k_19 : isK 19 12 = true := by decide
theorem l_19 : aLen 19 = 4 := rfl
theorem k_20 : isK 20 12 = true := by decide
theorem l_20 : aLen 20 = 4 := rfl
theorem k_21 : isK 21 8 = true := by decide
theorem k_22 : isK 22 12 = true := by decide
theorem l_22 : aLen 22 = 4 := rfl
theorem k_23 : isK 23 12 = true := by decide
theorem l_23 : aLen 23 = 4 := rfl
theorem k_24 : isK 24 8 = true := by decide
theorem k_25 : isK 25 12 = true := by decide
theorem l_25 : aLen 25 = 4 := rfl
theorem k_26 : isK 26 12 = true := by decide
theorem l_26 : aLen 26 = 4 := rfl
theorem k_27 : isK 27 8 = true := by decide
theorem k_28 : isK 28 12 = true := by decide
theorem l_28 : aLen 28 = 4 := rfl
theorem k_29 : isK 29 12 = true := by decide
theorem l_29 : aLen 29 = 4 := rfl
theorem k_30 : isK 30 8 = true := by decide
theorem k_31 : isK 31 12 = true := by decide
theorem l_31 : aLen 31 = 4 := rfl
theorem k_32 : isK 32 12 = true := by decide
theorem l_32 : aLen 32 = 4 := rfl
theorem k_33 : isK 33 8 = true := by decide
theorem k_34 : isK 34 12 = true := by decide
theorem l_34 : aLen 34 = 4 := rfl
theorem k_35 : isK 35 12 = true := by decide
theorem l_35 : aLen 35 = 4 := rfl
theorem k_36 : isK 36 8 = true := by decide
theorem k_37 : isK 37 12 = true := by decide
theorem l_37 : aLen 37 = 4 := rfl
theorem k_38 : isK 38 12 = true := by decide
theorem l_38 : aLen 38 = 4 := rfl
theorem k_39 : isK 39 8 = true := by decide
theorem k_40 : isK 40 12 = true := by decide
theorem l_40 : aLen 40 = 4 := rfl
theorem k_41 : isK 41 12 = true := by decide
theorem l_41 : aLen 41 = 4 := rfl
theorem k_42 : isK 42 6 = true := by decide
theorem k_43 : isK 43 5 = true := by decide
theorem k_44 : isK 44 12 = true := by decide
theorem l_44 : aLen 44 = 120 := rfl
theorem k_45 : isK 45 12 = true := by decide
theorem l_45 : aLen 45 = 3 := rfl
theorem k_46 : isK 46 12 = true := by decide
theorem l_46 : aLen 46 = 3 := rfl
theorem k_47 : isK 47 12 = true := by decide
theorem l_47 : aLen 47 = 40 := rfl
theorem k_48 : isK 48 15 = true := by decide
theorem l_48 : aLen 48 = 8 := rfl
theorem k_49 : isK 49 8 = true := by decide
theorem k_50 : isK 50 12 = true := by decide
theorem l_50 : aLen 50 = 4 := rfl
theorem k_51 : isK 51 12 = true := by decide
theorem l_51 : aLen 51 = 4 := rfl
theorem k_52 : isK 52 12 = true := by decide
theorem l_52 : aLen 52 = 450 := rfl
theorem k_53 : isK 53 12 = true := by decide
theorem l_53 : aLen 53 = 450 := rfl
theorem k_54 : isK 54 12 = true := by decide
theorem l_54 : aLen 54 = 450 := rfl
theorem k_55 : isK 55 12 = true := by decide
theorem l_55 : aLen 55 = 451 := rfl
theorem k_56 : isK 56 12 = true := by decide
theorem l_56 : aLen 56 = 450 := rfl
theorem k_57 : isK 57 12 = true := by decide
theorem l_57 : aLen 57 = 450 := rfl
theorem k_58 : isK 58 8 = true := by decide
theorem k_59 : isK 59 12 = true := by decide
theorem l_59 : aLen 59 = 4 := rfl
theorem k_60 : isK 60 12 = true := by decide
theorem l_60 : aLen 60 = 4 := rfl
theorem k_61 : isK 61 8 = true := by decide
theorem k_62 : isK 62 12 = true := by decide
theorem l_62 : aLen 62 = 4 := rfl
theorem k_63 : isK 63 12 = true := by decide
theorem l_63 : aLen 63 = 4 := rfl
theorem k_64 : isK 64 8 = true := by decide
theorem k_65 : isK 65 12 = true := by decide
theorem l_65 : aLen 65 = 4 := rfl
theorem k_66 : isK 66 12 = true := by decide
theorem l_66 : aLen 66 = 4 := rfl
theorem k_67 : isK 67 8 = true := by decide
theorem k_68 : isK 68 12 = true := by decide
theorem l_68 : aLen 68 = 4 := rfl
theorem k_69 : isK 69 12 = true := by decide
theorem l_69 : aLen 69 = 4 := rfl
theorem k_70 : isK 70 8 = true := by decide
theorem k_71 : isK 71 12 = true := by decide
theorem l_71 : aLen 71 = 4 := rfl
theorem k_72 : isK 72 12 = true := by decide
theorem l_72 : aLen 72 = 4 := rfl
theorem k_73 : isK 73 8 = true := by decide
theorem k_74 : isK 74 12 = true := by decide
theorem l_74 : aLen 74 = 4 := rfl
theorem k_75 : isK 75 12 = true := by decide
theorem l_75 : aLen 75 = 4 := rfl
theorem k_76 : isK 76 8 = true := by decide
theorem k_77 : isK 77 12 = true := by decide
theorem l_77 : aLen 77 = 4 := rfl
theorem k_78 : isK 78 12 = true := by decide
theorem l_78 : aLen 78 = 4 := rfl
theorem k_79 : isK 79 8 = true := by decide
theorem k_80 : isK 80 12 = true := by decide
theorem l_80 : aLen 80 = 4 := rfl
theorem k_81 : isK 81 12 = true := by decide
theorem l_81 : aLen 81 = 4 := rfl
theorem k_82 : isK 82 7 = true := by decide
theorem k_83 : isK 83 5 = true := by decide
theorem k_84 : isK 84 12 = true := by decide
theorem l_84 : aLen 84 = 120 := rfl
theorem k_85 : isK 85 1 = true := by decide
theorem k_86 : isK 86 12 = true := by decide
theorem l_86 : aLen 86 = 4800 := rfl
theorem k_87 : isK 87 12 = true := by decide
theorem l_87 : aLen 87 = 40 := rfl
theorem k_88 : isK 88 12 = true := by decide
theorem l_88 : aLen 88 = 8 := rfl
theorem k_89 : isK 89 12 = true := by decide
theorem l_89 : aLen 89 = 8 := rfl
theorem k_90 : isK 90 12 = true := by decide
theorem l_90 : aLen 90 = 8 := rfl
theorem k_91 : isK 91 12 = true := by decide
theorem l_91 : aLen 91 = 3 := rfl
theorem k_92 : isK 92 7 = true := by decide
theorem k_93 : isK 93 5 = true := by decide
theorem k_94 : isK 94 12 = true := by decide
theorem l_94 : aLen 94 = 120 := rfl
theorem k_95 : isK 95 1 = true := by decide
theorem k_96 : isK 96 12 = true := by decide
theorem l_96 : aLen 96 = 4800 := rfl
theorem k_97 : isK 97 12 = true := by decide
theorem l_97 : aLen 97 = 40 := rfl
theorem k_98 : isK 98 12 = true := by decide
theorem l_98 : aLen 98 = 8 := rfl
theorem k_99 : isK 99 12 = true := by decide
theorem l_99 : aLen 99 = 8 := rfl
theorem k_100 : isK 100 12 = true := by decide
theorem l_100 : aLen 100 = 8 := rfl
theorem k_101 : isK 101 12 = true := by decide
theorem l_101 : aLen 101 = 3 := rfl
theorem k_102 : isK 102 4 = true := by decide
theorem k_103 : isK 103 0 = true := by decide
theorem k_104 : isK 104 0 = true := by decide
theorem k_105 : isK 105 5 = true := by decide
theorem k_106 : isK 106 12 = true := by decide
theorem l_106 : aLen 106 = 120 := rfl
theorem k_107 : isK 107 14 = true := by decide
theorem l_107 : aLen 107 = 8 := rfl
theorem k_108 : isK 108 12 = true := by decide
theorem l_108 : aLen 108 = 40 := rfl
theorem k_109 : isK 109 2 = true := by decide
theorem k_110 : isK 110 12 = true := by decide
theorem l_110 : aLen 110 = 901 := rfl
theorem k_111 : isK 111 12 = true := by decide
theorem l_111 : aLen 111 = 901 := rfl
theorem k_112 : isK 112 12 = true := by decide
theorem l_112 : aLen 112 = 901 := rfl
theorem k_113 : isK 113 3 = true := by decide
theorem k_114 : isK 114 5 = true := by decide
theorem k_115 : isK 115 12 = true := by decide
theorem l_115 : aLen 115 = 120 := rfl
theorem k_116 : isK 116 0 = true := by decide
theorem k_117 : isK 117 12 = true := by decide
theorem l_117 : aLen 117 = 40 := rfl
theorem k_118 : isK 118 12 = true := by decide
theorem l_118 : aLen 118 = 40 := rfl
theorem k_119 : isK 119 12 = true := by decide
theorem l_119 : aLen 119 = 160 := rfl
theorem k_120 : isK 120 12 = true := by decide
theorem l_120 : aLen 120 = 30 := rfl
theorem k_121 : isK 121 3 = true := by decide
theorem k_122 : isK 122 5 = true := by decide
theorem k_123 : isK 123 12 = true := by decide
theorem l_123 : aLen 123 = 120 := rfl
theorem k_124 : isK 124 0 = true := by decide
theorem k_125 : isK 125 12 = true := by decide
theorem l_125 : aLen 125 = 40 := rfl
theorem k_126 : isK 126 12 = true := by decide
theorem l_126 : aLen 126 = 40 := rfl
theorem k_127 : isK 127 12 = true := by decide
theorem l_127 : aLen 127 = 160 := rfl
theorem k_128 : isK 128 12 = true := by decide
theorem l_128 : aLen 128 = 30 := rfl
theorem k_129 : isK 129 5 = true := by decide
theorem k_130 : isK 130 12 = true := by decide
theorem l_130 : aLen 130 = 120 := rfl
theorem k_131 : isK 131 5 = true := by decide
theorem k_132 : isK 132 12 = true := by decide
theorem l_132 : aLen 132 = 120 := rfl
theorem k_133 : isK 133 5 = true := by decide
theorem k_134 : isK 134 12 = true := by decide
theorem l_134 : aLen 134 = 120 := rfl
theorem k_135 : isK 135 5 = true := by decide
theorem k_136 : isK 136 12 = true := by decide
theorem l_136 : aLen 136 = 120 := rfl
theorem k_137 : isK 137 5 = true := by decide
theorem k_138 : isK 138 12 = true := by decide
theorem l_138 : aLen 138 = 120 := rfl
theorem k_139 : isK 139 5 = true := by decide
theorem k_140 : isK 140 12 = true := by decide
theorem l_140 : aLen 140 = 120 := rfl
theorem k_141 : isK 141 5 = true := by decide
theorem k_142 : isK 142 12 = true := by decide
theorem l_142 : aLen 142 = 120 := rfl
theorem k_143 : isK 143 5 = true := by decide
theorem k_144 : isK 144 12 = true := by decide
theorem l_144 : aLen 144 = 120 := rfl
theorem k_145 : isK 145 10 = true := by decide
theorem k_146 : isK 146 12 = true := by decide
theorem l_146 : aLen 146 = 12500 := rfl
theorem k_147 : isK 147 12 = true := by decide
theorem l_147 : aLen 147 = 16 := rfl
theorem k_148 : isK 148 12 = true := by decide
theorem l_148 : aLen 148 = 16 := rfl
theorem k_149 : isK 149 12 = true := by decide
theorem l_149 : aLen 149 = 16 := rfl
theorem k_150 : isK 150 12 = true := by decide
theorem l_150 : aLen 150 = 6 := rfl
theorem k_151 : isK 151 12 = true := by decide
theorem l_151 : aLen 151 = 920 := rfl
theorem k_152 : isK 152 12 = true := by decide
theorem l_152 : aLen 152 = 920 := rfl
theorem k_153 : isK 153 12 = true := by decide
theorem l_153 : aLen 153 = 920 := rfl
theorem k_154 : isK 154 12 = true := by decide
theorem l_154 : aLen 154 = 640 := rfl
theorem k_155 : isK 155 12 = true := by decide
theorem l_155 : aLen 155 = 640 := rfl
theorem k_156 : isK 156 12 = true := by decide
theorem l_156 : aLen 156 = 320 := rfl
theorem k_157 : isK 157 12 = true := by decide
theorem l_157 : aLen 157 = 320 := rfl
theorem k_158 : isK 158 12 = true := by decide
theorem l_158 : aLen 158 = 320 := rfl
theorem k_159 : isK 159 12 = true := by decide
theorem l_159 : aLen 159 = 2 := rfl
theorem k_160 : isK 160 12 = true := by decide
theorem l_160 : aLen 160 = 2 := rfl
theorem k_161 : isK 161 12 = true := by decide
theorem l_161 : aLen 161 = 2 := rfl
theorem k_162 : isK 162 12 = true := by decide
theorem l_162 : aLen 162 = 2 := rfl
theorem k_163 : isK 163 12 = true := by decide
theorem l_163 : aLen 163 = 2 := rfl
theorem k_164 : isK 164 12 = true := by decide
theorem l_164 : aLen 164 = 2 := rfl
theorem k_165 : isK 165 12 = true := by decide
theorem l_165 : aLen 165 = 2 := rfl
theorem k_166 : isK 166 12 = true := by decide
theorem l_166 : aLen 166 = 2 := rfl
theorem k_167 : isK 167 12 = true := by decide
theorem l_167 : aLen 167 = 6 := rfl
theorem k_168 : isK 168 12 = true := by decide
theorem l_168 : aLen 168 = 6 := rfl
theorem k_169 : isK 169 12 = true := by decide
theorem l_169 : aLen 169 = 80 := rfl
theorem k_170 : isK 170 12 = true := by decide
theorem l_170 : aLen 170 = 16 := rfl
theorem k_171 : isK 171 12 = true := by decide
theorem l_171 : aLen 171 = 16 := rfl
theorem k_172 : isK 172 12 = true := by decide
theorem l_172 : aLen 172 = 16 := rfl
theorem k_173 : isK 173 12 = true := by decide
theorem l_173 : aLen 173 = 16 := rfl
theorem k_174 : isK 174 12 = true := by decide
theorem l_174 : aLen 174 = 16 := rfl
theorem k_175 : isK 175 12 = true := by decide
theorem l_175 : aLen 175 = 16 := rfl
theorem k_176 : isK 176 12 = true := by decide
theorem l_176 : aLen 176 = 64 := rfl
theorem k_177 : isK 177 12 = true := by decide
theorem l_177 : aLen 177 = 64 := rfl
theorem k_178 : isK 178 12 = true := by decide
theorem l_178 : aLen 178 = 900 := rfl
theorem k_179 : isK 179 12 = true := by decide
theorem l_179 : aLen 179 = 150 := rfl
theorem k_180 : isK 180 12 = true := by decide
theorem l_180 : aLen 180 = 150 := rfl
theorem k_181 : isK 181 12 = true := by decide
theorem l_181 : aLen 181 = 150 := rfl
theorem k_182 : isK 182 12 = true := by decide
theorem l_182 : aLen 182 = 200 := rfl
theorem k_183 : isK 183 12 = true := by decide
theorem l_183 : aLen 183 = 200 := rfl
theorem k_184 : isK 184 12 = true := by decide
theorem l_184 : aLen 184 = 800 := rfl
theorem k_185 : isK 185 12 = true := by decide
theorem l_185 : aLen 185 = 200 := rfl
theorem k_186 : isK 186 12 = true := by decide
theorem l_186 : aLen 186 = 30 := rfl
theorem k_187 : isK 187 12 = true := by decide
theorem l_187 : aLen 187 = 4 := rfl
theorem k_188 : isK 188 12 = true := by decide
theorem l_188 : aLen 188 = 320 := rfl
theorem k_189 : isK 189 12 = true := by decide
theorem l_189 : aLen 189 = 320 := rfl
theorem k_190 : isK 190 12 = true := by decide
theorem l_190 : aLen 190 = 1280 := rfl
theorem k_191 : isK 191 12 = true := by decide
theorem l_191 : aLen 191 = 4 := rfl
theorem k_192 : isK 192 13 = true := by decide
theorem l_192 : aLen 192 = 30 := rfl
theorem k_193 : isK 193 12 = true := by decide
theorem l_193 : aLen 193 = 1150 := rfl
theorem k_194 : isK 194 12 = true := by decide
theorem l_194 : aLen 194 = 5 := rfl
theorem k_195 : isK 195 12 = true := by decide
theorem l_195 : aLen 195 = 200 := rfl
theorem k_196 : isK 196 13 = true := by decide
theorem l_196 : aLen 196 = 200 := rfl
theorem k_197 : isK 197 12 = true := by decide
theorem l_197 : aLen 197 = 960 := rfl
/-! rows -/
def rowsL : List Nat := [3, 43, 83, 93, 105, 114, 122, 129, 131, 133, 135, 137, 139, 141, 143]
def RwK (C : AmC) (r : Nat) : Prop := isK r 5 = true ∧ cP C r 0 = some (r + 1) ∧ isK (r + 1) 12 = true ∧ aLen (r + 1) = 120
theorem rw_k : ∀ r ∈ rowsL, isK r 5 = true ∧ isK (r + 1) 12 = true ∧ aLen (r + 1) = 120 ∧ (r, 0, r + 1) ∈ refL := by decide
theorem rw_of {C : AmC} (h : PInv C) {r : Nat} (hr : r ∈ rowsL) : RwK C r := by
  obtain ⟨h1, h2, h3, h4⟩ := rw_k r hr
  exact ⟨h1, h _ h4, h2, h3⟩
/-! statements -/
def stmsL : List Nat := [9, 18, 21, 24, 27, 30, 33, 36, 39, 49, 58, 61, 64, 67, 70, 73, 76, 79]
def StK (C : AmC) (r : Nat) : Prop := isK r 8 = true ∧ cP C r 5 = some (r + 1) ∧ cP C r 6 = some (r + 2) ∧ isK (r + 1) 12 = true ∧ aLen (r + 1) = 4 ∧ isK (r + 2) 12 = true ∧ aLen (r + 2) = 4
theorem st_k : ∀ r ∈ stmsL, isK r 8 = true ∧ isK (r + 1) 12 = true ∧ aLen (r + 1) = 4 ∧ isK (r + 2) 12 = true ∧ aLen (r + 2) = 4 ∧ (r, 5, r + 1) ∈ refL ∧ (r, 6, r + 2) ∈ refL := by decide
theorem st_of {C : AmC} (h : PInv C) {r : Nat} (hr : r ∈ stmsL) : StK C r := by
  obtain ⟨h1, h2, h3, h4, h5, h6, h7⟩ := st_k r hr
  exact ⟨h1, h _ h6, h _ h7, h2, h3, h4, h5⟩
/-! scripts -/
def scrL : List Nat := [2, 42]
def ScK (C : AmC) (s : Nat) : Prop := isK s 6 = true ∧ cP C s 1 = some (s + 1) ∧ cP C s 3 = some (s + 3) ∧ cP C s 4 = some (s + 4) ∧ cP C s 7 = some (s + 5) ∧ cP C s 9 = some (s + 6) ∧ cP C s 10 = some (s + 7) ∧ cP C s 12 = some (s + 10) ∧ cP C s 13 = some (s + 11) ∧ cP C s 14 = some (s + 12) ∧ cP C s 16 = some (s + 13) ∧ cP C s 18 = some (s + 14) ∧ cP C s 19 = some (s + 15) ∧ isK (s + 3) 12 = true ∧ isK (s + 4) 12 = true ∧ isK (s + 5) 12 = true ∧ isK (s + 10) 12 = true ∧ isK (s + 11) 12 = true ∧ isK (s + 12) 12 = true ∧ isK (s + 13) 12 = true ∧ isK (s + 14) 12 = true ∧ isK (s + 15) 12 = true ∧ aLen (s + 3) = 3 ∧ aLen (s + 4) = 3 ∧ aLen (s + 5) = 40 ∧ aLen (s + 10) = 450 ∧ aLen (s + 11) = 450 ∧ aLen (s + 12) = 450 ∧ aLen (s + 13) = 451 ∧ aLen (s + 14) = 450 ∧ aLen (s + 15) = 450 ∧ isK (s + 6) 15 = true ∧ aLen (s + 6) = 8 ∧ s + 1 ∈ rowsL ∧ s + 7 ∈ stmsL ∧ ∀ i, i < 8 → cP C (s + 6) i = some (s + 16 + 3 * i)
theorem sc_k : ∀ s ∈ scrL, isK s 6 = true ∧ isK (s + 3) 12 = true ∧ isK (s + 4) 12 = true ∧ isK (s + 5) 12 = true ∧ isK (s + 10) 12 = true ∧ isK (s + 11) 12 = true ∧ isK (s + 12) 12 = true ∧ isK (s + 13) 12 = true ∧ isK (s + 14) 12 = true ∧ isK (s + 15) 12 = true ∧ aLen (s + 3) = 3 ∧ aLen (s + 4) = 3 ∧ aLen (s + 5) = 40 ∧ aLen (s + 10) = 450 ∧ aLen (s + 11) = 450 ∧ aLen (s + 12) = 450 ∧ aLen (s + 13) = 451 ∧ aLen (s + 14) = 450 ∧ aLen (s + 15) = 450 ∧ isK (s + 6) 15 = true ∧ aLen (s + 6) = 8 ∧ s + 1 ∈ rowsL ∧ s + 7 ∈ stmsL ∧ (s, 1, s + 1) ∈ refL ∧ (s, 3, s + 3) ∈ refL ∧ (s, 4, s + 4) ∈ refL ∧ (s, 7, s + 5) ∈ refL ∧ (s, 9, s + 6) ∈ refL ∧ (s, 10, s + 7) ∈ refL ∧ (s, 12, s + 10) ∈ refL ∧ (s, 13, s + 11) ∈ refL ∧ (s, 14, s + 12) ∈ refL ∧ (s, 16, s + 13) ∈ refL ∧ (s, 18, s + 14) ∈ refL ∧ (s, 19, s + 15) ∈ refL ∧ (∀ i, i < 8 → (s + 6, i, s + 16 + 3 * i) ∈ refL) := by
  intro z hz
  rcases List.mem_cons.mp hz with rfl | hz
  · and_intros <;> decide
  · rcases List.mem_cons.mp hz with rfl | hz
    · and_intros <;> decide
    · cases hz
theorem sc_of {C : AmC} (h : PInv C) {s : Nat} (hs : s ∈ scrL) : ScK C s := by
  obtain ⟨h0, g0, g1, g2, g3, g4, g5, g6, g7, g8, g9, g10, g11, g12, g13, g14, g15, g16, g17, g18, g19, g20, g21, e0, e1, e2, e3, e4, e5, e6, e7, e8, e9, e10, e11, h1⟩ := sc_k s hs
  exact ⟨h0, h _ e0, h _ e1, h _ e2, h _ e3, h _ e4, h _ e5, h _ e6, h _ e7, h _ e8, h _ e9, h _ e10, h _ e11, g0, g1, g2, g3, g4, g5, g6, g7, g8, g9, g10, g11, g12, g13, g14, g15, g16, g17, g18, g19, g20, g21, fun i hi => h _ (h1 i hi)⟩
theorem ScK.k {C : AmC} {s : Nat} (h : ScK C s) : isK s 6 = true := h.1
theorem ScK.p1 {C : AmC} {s : Nat} (h : ScK C s) : cP C s 1 = some (s + 1) := h.2.1
theorem ScK.p3 {C : AmC} {s : Nat} (h : ScK C s) : cP C s 3 = some (s + 3) := h.2.2.1
theorem ScK.p4 {C : AmC} {s : Nat} (h : ScK C s) : cP C s 4 = some (s + 4) := h.2.2.2.1
theorem ScK.p7 {C : AmC} {s : Nat} (h : ScK C s) : cP C s 7 = some (s + 5) := h.2.2.2.2.1
theorem ScK.p9 {C : AmC} {s : Nat} (h : ScK C s) : cP C s 9 = some (s + 6) := h.2.2.2.2.2.1
theorem ScK.p10 {C : AmC} {s : Nat} (h : ScK C s) : cP C s 10 = some (s + 7) := h.2.2.2.2.2.2.1
theorem ScK.p12 {C : AmC} {s : Nat} (h : ScK C s) : cP C s 12 = some (s + 10) := h.2.2.2.2.2.2.2.1
theorem ScK.p13 {C : AmC} {s : Nat} (h : ScK C s) : cP C s 13 = some (s + 11) := h.2.2.2.2.2.2.2.2.1
theorem ScK.p14 {C : AmC} {s : Nat} (h : ScK C s) : cP C s 14 = some (s + 12) := h.2.2.2.2.2.2.2.2.2.1
theorem ScK.p16 {C : AmC} {s : Nat} (h : ScK C s) : cP C s 16 = some (s + 13) := h.2.2.2.2.2.2.2.2.2.2.1
theorem ScK.p18 {C : AmC} {s : Nat} (h : ScK C s) : cP C s 18 = some (s + 14) := h.2.2.2.2.2.2.2.2.2.2.2.1
theorem ScK.p19 {C : AmC} {s : Nat} (h : ScK C s) : cP C s 19 = some (s + 15) := h.2.2.2.2.2.2.2.2.2.2.2.2.1
theorem ScK.k3 {C : AmC} {s : Nat} (h : ScK C s) : isK (s + 3) 12 = true := h.2.2.2.2.2.2.2.2.2.2.2.2.2.1
theorem ScK.k4 {C : AmC} {s : Nat} (h : ScK C s) : isK (s + 4) 12 = true := h.2.2.2.2.2.2.2.2.2.2.2.2.2.2.1
theorem ScK.k5 {C : AmC} {s : Nat} (h : ScK C s) : isK (s + 5) 12 = true := h.2.2.2.2.2.2.2.2.2.2.2.2.2.2.2.1
theorem ScK.k10 {C : AmC} {s : Nat} (h : ScK C s) : isK (s + 10) 12 = true := h.2.2.2.2.2.2.2.2.2.2.2.2.2.2.2.2.1
theorem ScK.k11 {C : AmC} {s : Nat} (h : ScK C s) : isK (s + 11) 12 = true := h.2.2.2.2.2.2.2.2.2.2.2.2.2.2.2.2.2.1
theorem ScK.k12 {C : AmC} {s : Nat} (h : ScK C s) : isK (s + 12) 12 = true := h.2.2.2.2.2.2.2.2.2.2.2.2.2.2.2.2.2.2.1
theorem ScK.k13 {C : AmC} {s : Nat} (h : ScK C s) : isK (s + 13) 12 = true := h.2.2.2.2.2.2.2.2.2.2.2.2.2.2.2.2.2.2.2.1
theorem ScK.k14 {C : AmC} {s : Nat} (h : ScK C s) : isK (s + 14) 12 = true := h.2.2.2.2.2.2.2.2.2.2.2.2.2.2.2.2.2.2.2.2.1
theorem ScK.k15 {C : AmC} {s : Nat} (h : ScK C s) : isK (s + 15) 12 = true := h.2.2.2.2.2.2.2.2.2.2.2.2.2.2.2.2.2.2.2.2.2.1
theorem ScK.l3 {C : AmC} {s : Nat} (h : ScK C s) : aLen (s + 3) = 3 := h.2.2.2.2.2.2.2.2.2.2.2.2.2.2.2.2.2.2.2.2.2.2.1
theorem ScK.l4 {C : AmC} {s : Nat} (h : ScK C s) : aLen (s + 4) = 3 := h.2.2.2.2.2.2.2.2.2.2.2.2.2.2.2.2.2.2.2.2.2.2.2.1
theorem ScK.l5 {C : AmC} {s : Nat} (h : ScK C s) : aLen (s + 5) = 40 := h.2.2.2.2.2.2.2.2.2.2.2.2.2.2.2.2.2.2.2.2.2.2.2.2.1
theorem ScK.l10 {C : AmC} {s : Nat} (h : ScK C s) : aLen (s + 10) = 450 := h.2.2.2.2.2.2.2.2.2.2.2.2.2.2.2.2.2.2.2.2.2.2.2.2.2.1
theorem ScK.l11 {C : AmC} {s : Nat} (h : ScK C s) : aLen (s + 11) = 450 := h.2.2.2.2.2.2.2.2.2.2.2.2.2.2.2.2.2.2.2.2.2.2.2.2.2.2.1
theorem ScK.l12 {C : AmC} {s : Nat} (h : ScK C s) : aLen (s + 12) = 450 := h.2.2.2.2.2.2.2.2.2.2.2.2.2.2.2.2.2.2.2.2.2.2.2.2.2.2.2.1
theorem ScK.l13 {C : AmC} {s : Nat} (h : ScK C s) : aLen (s + 13) = 451 := h.2.2.2.2.2.2.2.2.2.2.2.2.2.2.2.2.2.2.2.2.2.2.2.2.2.2.2.2.1
theorem ScK.l14 {C : AmC} {s : Nat} (h : ScK C s) : aLen (s + 14) = 450 := h.2.2.2.2.2.2.2.2.2.2.2.2.2.2.2.2.2.2.2.2.2.2.2.2.2.2.2.2.2.1
theorem ScK.l15 {C : AmC} {s : Nat} (h : ScK C s) : aLen (s + 15) = 450 := h.2.2.2.2.2.2.2.2.2.2.2.2.2.2.2.2.2.2.2.2.2.2.2.2.2.2.2.2.2.2.1
theorem ScK.k6 {C : AmC} {s : Nat} (h : ScK C s) : isK (s + 6) 15 = true := h.2.2.2.2.2.2.2.2.2.2.2.2.2.2.2.2.2.2.2.2.2.2.2.2.2.2.2.2.2.2.2.1
theorem ScK.l6 {C : AmC} {s : Nat} (h : ScK C s) : aLen (s + 6) = 8 := h.2.2.2.2.2.2.2.2.2.2.2.2.2.2.2.2.2.2.2.2.2.2.2.2.2.2.2.2.2.2.2.2.1
theorem ScK.told {C : AmC} {s : Nat} (h : ScK C s) : s + 1 ∈ rowsL := h.2.2.2.2.2.2.2.2.2.2.2.2.2.2.2.2.2.2.2.2.2.2.2.2.2.2.2.2.2.2.2.2.2.1
theorem ScK.no {C : AmC} {s : Nat} (h : ScK C s) : s + 7 ∈ stmsL := h.2.2.2.2.2.2.2.2.2.2.2.2.2.2.2.2.2.2.2.2.2.2.2.2.2.2.2.2.2.2.2.2.2.2.1
theorem ScK.st {C : AmC} {s : Nat} (h : ScK C s) : ∀ i, i < 8 → cP C (s + 6) i = some (s + 16 + 3 * i) := h.2.2.2.2.2.2.2.2.2.2.2.2.2.2.2.2.2.2.2.2.2.2.2.2.2.2.2.2.2.2.2.2.2.2.2
theorem sc_st : ∀ s ∈ scrL, ∀ i, i < 8 → s + 16 + 3 * i ∈ stmsL := by decide
/-! passes -/
def pasL : List Nat := [113, 121]
def PaK (C : AmC) (a : Nat) : Prop := isK a 3 = true ∧ cP C a 0 = some (a + 1) ∧ cP C a 1 = some (a + 3) ∧ cP C a 2 = some (a + 4) ∧ cP C a 3 = some (a + 5) ∧ cP C a 4 = some (a + 6) ∧ cP C a 5 = some (a + 7) ∧ isK (a + 4) 12 = true ∧ isK (a + 5) 12 = true ∧ isK (a + 6) 12 = true ∧ isK (a + 7) 12 = true ∧ aLen (a + 4) = 40 ∧ aLen (a + 5) = 40 ∧ aLen (a + 6) = 160 ∧ aLen (a + 7) = 30 ∧ isK (a + 3) 0 = true ∧ a + 1 ∈ rowsL
theorem pa_k : ∀ a ∈ pasL, isK a 3 = true ∧ isK (a + 4) 12 = true ∧ isK (a + 5) 12 = true ∧ isK (a + 6) 12 = true ∧ isK (a + 7) 12 = true ∧ aLen (a + 4) = 40 ∧ aLen (a + 5) = 40 ∧ aLen (a + 6) = 160 ∧ aLen (a + 7) = 30 ∧ isK (a + 3) 0 = true ∧ a + 1 ∈ rowsL ∧ (a, 0, a + 1) ∈ refL ∧ (a, 1, a + 3) ∈ refL ∧ (a, 2, a + 4) ∈ refL ∧ (a, 3, a + 5) ∈ refL ∧ (a, 4, a + 6) ∈ refL ∧ (a, 5, a + 7) ∈ refL := by
  intro z hz
  rcases List.mem_cons.mp hz with rfl | hz
  · and_intros <;> decide
  · rcases List.mem_cons.mp hz with rfl | hz
    · and_intros <;> decide
    · cases hz
theorem pa_of {C : AmC} (h : PInv C) {a : Nat} (ha : a ∈ pasL) : PaK C a := by
  obtain ⟨h0, g0, g1, g2, g3, g4, g5, g6, g7, g8, g9, e0, e1, e2, e3, e4, e5⟩ := pa_k a ha
  exact ⟨h0, h _ e0, h _ e1, h _ e2, h _ e3, h _ e4, h _ e5, g0, g1, g2, g3, g4, g5, g6, g7, g8, g9⟩
theorem PaK.k {C : AmC} {a : Nat} (h : PaK C a) : isK a 3 = true := h.1
theorem PaK.p0 {C : AmC} {a : Nat} (h : PaK C a) : cP C a 0 = some (a + 1) := h.2.1
theorem PaK.p1 {C : AmC} {a : Nat} (h : PaK C a) : cP C a 1 = some (a + 3) := h.2.2.1
theorem PaK.p2 {C : AmC} {a : Nat} (h : PaK C a) : cP C a 2 = some (a + 4) := h.2.2.2.1
theorem PaK.p3 {C : AmC} {a : Nat} (h : PaK C a) : cP C a 3 = some (a + 5) := h.2.2.2.2.1
theorem PaK.p4 {C : AmC} {a : Nat} (h : PaK C a) : cP C a 4 = some (a + 6) := h.2.2.2.2.2.1
theorem PaK.p5 {C : AmC} {a : Nat} (h : PaK C a) : cP C a 5 = some (a + 7) := h.2.2.2.2.2.2.1
theorem PaK.k4 {C : AmC} {a : Nat} (h : PaK C a) : isK (a + 4) 12 = true := h.2.2.2.2.2.2.2.1
theorem PaK.k5 {C : AmC} {a : Nat} (h : PaK C a) : isK (a + 5) 12 = true := h.2.2.2.2.2.2.2.2.1
theorem PaK.k6 {C : AmC} {a : Nat} (h : PaK C a) : isK (a + 6) 12 = true := h.2.2.2.2.2.2.2.2.2.1
theorem PaK.k7 {C : AmC} {a : Nat} (h : PaK C a) : isK (a + 7) 12 = true := h.2.2.2.2.2.2.2.2.2.2.1
theorem PaK.l4 {C : AmC} {a : Nat} (h : PaK C a) : aLen (a + 4) = 40 := h.2.2.2.2.2.2.2.2.2.2.2.1
theorem PaK.l5 {C : AmC} {a : Nat} (h : PaK C a) : aLen (a + 5) = 40 := h.2.2.2.2.2.2.2.2.2.2.2.2.1
theorem PaK.l6 {C : AmC} {a : Nat} (h : PaK C a) : aLen (a + 6) = 160 := h.2.2.2.2.2.2.2.2.2.2.2.2.2.1
theorem PaK.l7 {C : AmC} {a : Nat} (h : PaK C a) : aLen (a + 7) = 30 := h.2.2.2.2.2.2.2.2.2.2.2.2.2.2.1
theorem PaK.kc {C : AmC} {a : Nat} (h : PaK C a) : isK (a + 3) 0 = true := h.2.2.2.2.2.2.2.2.2.2.2.2.2.2.2.1
theorem PaK.rw {C : AmC} {a : Nat} (h : PaK C a) : a + 1 ∈ rowsL := h.2.2.2.2.2.2.2.2.2.2.2.2.2.2.2.2
/-! states -/
def staL : List Nat := [82, 92]
def SaK (C : AmC) (a : Nat) : Prop := isK a 7 = true ∧ cP C a 0 = some (a + 1) ∧ cP C a 1 = some (a + 3) ∧ cP C a 2 = some (a + 6) ∧ cP C a 3 = some (a + 7) ∧ cP C a 4 = some (a + 8) ∧ cP C a 6 = some (a + 9) ∧ cP C (a + 3) 0 = some (a + 4) ∧ cP C (a + 3) 1 = some (a + 5) ∧ isK (a + 6) 12 = true ∧ isK (a + 7) 12 = true ∧ isK (a + 8) 12 = true ∧ isK (a + 9) 12 = true ∧ isK (a + 4) 12 = true ∧ isK (a + 5) 12 = true ∧ aLen (a + 6) = 8 ∧ aLen (a + 7) = 8 ∧ aLen (a + 8) = 8 ∧ aLen (a + 9) = 3 ∧ aLen (a + 4) = 4800 ∧ aLen (a + 5) = 40 ∧ isK (a + 3) 1 = true ∧ a + 1 ∈ rowsL
theorem sa_k : ∀ a ∈ staL, isK a 7 = true ∧ isK (a + 6) 12 = true ∧ isK (a + 7) 12 = true ∧ isK (a + 8) 12 = true ∧ isK (a + 9) 12 = true ∧ isK (a + 4) 12 = true ∧ isK (a + 5) 12 = true ∧ aLen (a + 6) = 8 ∧ aLen (a + 7) = 8 ∧ aLen (a + 8) = 8 ∧ aLen (a + 9) = 3 ∧ aLen (a + 4) = 4800 ∧ aLen (a + 5) = 40 ∧ isK (a + 3) 1 = true ∧ a + 1 ∈ rowsL ∧ (a, 0, a + 1) ∈ refL ∧ (a, 1, a + 3) ∈ refL ∧ (a, 2, a + 6) ∈ refL ∧ (a, 3, a + 7) ∈ refL ∧ (a, 4, a + 8) ∈ refL ∧ (a, 6, a + 9) ∈ refL ∧ (a + 3, 0, a + 4) ∈ refL ∧ (a + 3, 1, a + 5) ∈ refL := by
  intro z hz
  rcases List.mem_cons.mp hz with rfl | hz
  · and_intros <;> decide
  · rcases List.mem_cons.mp hz with rfl | hz
    · and_intros <;> decide
    · cases hz
theorem sa_of {C : AmC} (h : PInv C) {a : Nat} (ha : a ∈ staL) : SaK C a := by
  obtain ⟨h0, g0, g1, g2, g3, g4, g5, g6, g7, g8, g9, g10, g11, g12, g13, e0, e1, e2, e3, e4, e5, e6, e7⟩ := sa_k a ha
  exact ⟨h0, h _ e0, h _ e1, h _ e2, h _ e3, h _ e4, h _ e5, h _ e6, h _ e7, g0, g1, g2, g3, g4, g5, g6, g7, g8, g9, g10, g11, g12, g13⟩
theorem SaK.k {C : AmC} {a : Nat} (h : SaK C a) : isK a 7 = true := h.1
theorem SaK.p0 {C : AmC} {a : Nat} (h : SaK C a) : cP C a 0 = some (a + 1) := h.2.1
theorem SaK.p1 {C : AmC} {a : Nat} (h : SaK C a) : cP C a 1 = some (a + 3) := h.2.2.1
theorem SaK.p2 {C : AmC} {a : Nat} (h : SaK C a) : cP C a 2 = some (a + 6) := h.2.2.2.1
theorem SaK.p3 {C : AmC} {a : Nat} (h : SaK C a) : cP C a 3 = some (a + 7) := h.2.2.2.2.1
theorem SaK.p4 {C : AmC} {a : Nat} (h : SaK C a) : cP C a 4 = some (a + 8) := h.2.2.2.2.2.1
theorem SaK.p6 {C : AmC} {a : Nat} (h : SaK C a) : cP C a 6 = some (a + 9) := h.2.2.2.2.2.2.1
theorem SaK.q0 {C : AmC} {a : Nat} (h : SaK C a) : cP C (a + 3) 0 = some (a + 4) := h.2.2.2.2.2.2.2.1
theorem SaK.q1 {C : AmC} {a : Nat} (h : SaK C a) : cP C (a + 3) 1 = some (a + 5) := h.2.2.2.2.2.2.2.2.1
theorem SaK.k6 {C : AmC} {a : Nat} (h : SaK C a) : isK (a + 6) 12 = true := h.2.2.2.2.2.2.2.2.2.1
theorem SaK.k7 {C : AmC} {a : Nat} (h : SaK C a) : isK (a + 7) 12 = true := h.2.2.2.2.2.2.2.2.2.2.1
theorem SaK.k8 {C : AmC} {a : Nat} (h : SaK C a) : isK (a + 8) 12 = true := h.2.2.2.2.2.2.2.2.2.2.2.1
theorem SaK.k9 {C : AmC} {a : Nat} (h : SaK C a) : isK (a + 9) 12 = true := h.2.2.2.2.2.2.2.2.2.2.2.2.1
theorem SaK.k4 {C : AmC} {a : Nat} (h : SaK C a) : isK (a + 4) 12 = true := h.2.2.2.2.2.2.2.2.2.2.2.2.2.1
theorem SaK.k5 {C : AmC} {a : Nat} (h : SaK C a) : isK (a + 5) 12 = true := h.2.2.2.2.2.2.2.2.2.2.2.2.2.2.1
theorem SaK.l6 {C : AmC} {a : Nat} (h : SaK C a) : aLen (a + 6) = 8 := h.2.2.2.2.2.2.2.2.2.2.2.2.2.2.2.1
theorem SaK.l7 {C : AmC} {a : Nat} (h : SaK C a) : aLen (a + 7) = 8 := h.2.2.2.2.2.2.2.2.2.2.2.2.2.2.2.2.1
theorem SaK.l8 {C : AmC} {a : Nat} (h : SaK C a) : aLen (a + 8) = 8 := h.2.2.2.2.2.2.2.2.2.2.2.2.2.2.2.2.2.1
theorem SaK.l9 {C : AmC} {a : Nat} (h : SaK C a) : aLen (a + 9) = 3 := h.2.2.2.2.2.2.2.2.2.2.2.2.2.2.2.2.2.2.1
theorem SaK.l4 {C : AmC} {a : Nat} (h : SaK C a) : aLen (a + 4) = 4800 := h.2.2.2.2.2.2.2.2.2.2.2.2.2.2.2.2.2.2.2.1
theorem SaK.l5 {C : AmC} {a : Nat} (h : SaK C a) : aLen (a + 5) = 40 := h.2.2.2.2.2.2.2.2.2.2.2.2.2.2.2.2.2.2.2.2.1
theorem SaK.kh {C : AmC} {a : Nat} (h : SaK C a) : isK (a + 3) 1 = true := h.2.2.2.2.2.2.2.2.2.2.2.2.2.2.2.2.2.2.2.2.2.1
theorem SaK.rw {C : AmC} {a : Nat} (h : SaK C a) : a + 1 ∈ rowsL := h.2.2.2.2.2.2.2.2.2.2.2.2.2.2.2.2.2.2.2.2.2.2
