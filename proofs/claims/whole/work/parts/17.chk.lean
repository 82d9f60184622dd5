/-! The checks of the table, by the kernel. -/
set_option maxRecDepth 20000 in
theorem amCW0_at : amCW0 = ([423, 182, 183, 731, 734, 424, 738, 425, 742, 426, 427, 428, 745, 429, 727, 243, 247, 829, 773, 168, 774, 830, 776, 777, 315, 313, 831, 835, 839, 304, 307, 227, 750, 751, 752, 759, 756, 757, 758] : List Nat).filterMap (fun i => lw_tbl[i]?) := by decide +kernel
theorem amCW0_ok : amCW0.all (fun w => goodWord w || amNest w) = true := by decide +kernel
set_option maxRecDepth 20000 in
theorem amCW1_at : amCW1 = ([371, 182, 183, 205, 372, 373, 374, 375, 890, 654, 653, 173, 1409, 198, 1413, 773, 168, 774, 648] : List Nat).filterMap (fun i => lw_tbl[i]?) := by decide +kernel
theorem amCW1_ok : amCW1.all (fun w => goodWord w || amNest w) = true := by decide +kernel
set_option maxRecDepth 20000 in
theorem amCW2_at : amCW2 = ([479, 182, 183, 205, 480, 481, 482, 487, 485, 974, 773, 168, 774, 975, 1053, 484, 486, 1061, 295, 1065, 1069, 1081, 1093, 1101, 1113, 1162, 1166, 1174, 483, 979, 982, 1042, 1045, 1050, 986, 1049, 776, 777, 990, 1073, 277, 1077, 280, 1085, 1086, 490, 1090, 1091, 1092, 292, 1097, 489, 283, 1105, 1109, 1121, 224, 1126, 1117, 1130, 1154, 220, 1170, 216, 229, 233, 492, 493, 1134, 1138, 237, 491, 241, 1158, 1142, 1150, 1146] : List Nat).filterMap (fun i => lw_tbl[i]?) := by decide +kernel
theorem amCW2_ok : amCW2.all (fun w => goodWord w || amNest w) = true := by decide +kernel
set_option maxRecDepth 20000 in
theorem amCW3_at : amCW3 = ([526, 182, 183, 527, 191, 155, 528, 531, 529, 419, 160, 530, 533, 205, 534, 535, 536, 537, 538, 299, 539, 686, 540, 690, 541, 542, 694, 215, 698, 719, 821, 843, 847, 544, 546, 548, 223, 702, 706, 228, 710, 291, 232, 715, 825, 763, 746, 764, 723, 219, 768, 788, 797, 792, 276, 240, 236, 796, 801, 805, 809, 813, 817, 851, 866] : List Nat).filterMap (fun i => lw_tbl[i]?) := by decide +kernel
theorem amCW3_ok : amCW3.all (fun w => goodWord w || amNest w) = true := by decide +kernel
set_option maxRecDepth 20000 in
theorem amCW4_at : amCW4 = ([417, 182, 183, 418, 419, 160, 420, 443, 444, 446, 447, 214, 1284, 1292, 1298, 448, 1311, 1319, 450, 452, 1322, 1296, 1290, 1297, 289, 231, 1288, 1289, 226, 1291, 218, 222, 1326, 275, 1301, 1302, 1303, 1304, 1305, 1310, 239, 235, 1308, 305, 308, 1309, 302, 244, 248, 1314, 773, 168, 774, 1315, 776, 777, 316, 1316] : List Nat).filterMap (fun i => lw_tbl[i]?) := by decide +kernel
theorem amCW4_ok : amCW4.all (fun w => goodWord w || amNest w) = true := by decide +kernel
set_option maxRecDepth 20000 in
theorem amCW5_at : amCW5 = ([195, 182, 183, 205, 196, 197, 652, 654, 653, 173, 714, 1198, 1341, 1345] : List Nat).filterMap (fun i => lw_tbl[i]?) := by decide +kernel
theorem amCW5_ok : amCW5.all (fun w => goodWord w || amNest w) = true := by decide +kernel
set_option maxRecDepth 20000 in
theorem amCW6_at : amCW6 = ([189, 182, 183, 190, 191, 155, 192, 278, 205, 284, 285, 293, 206, 297, 208, 156, 209, 298, 301, 303, 306, 310, 312, 314, 269, 273, 1057, 281, 286, 288, 294, 300, 309, 311, 1125, 249, 782, 783, 784, 245, 772, 773, 168, 774, 775, 776, 777, 778, 864, 865, 859, 860, 855] : List Nat).filterMap (fun i => lw_tbl[i]?) := by decide +kernel
theorem amCW6_ok : amCW6.all (fun w => goodWord w || amNest w) = true := by decide +kernel
set_option maxRecDepth 20000 in
theorem amCW7_at : amCW7 = ([363, 182, 183, 364, 191, 155, 365, 386, 366, 367, 158, 368, 388, 205, 390, 391, 392, 395, 885, 1182, 393, 886, 891, 654, 653, 173, 872] : List Nat).filterMap (fun i => lw_tbl[i]?) := by decide +kernel
theorem amCW7_ok : amCW7.all (fun w => goodWord w || amNest w) = true := by decide +kernel
set_option maxRecDepth 20000 in
theorem amCW8_at : amCW8 = ([212, 182, 183, 205, 234, 238, 213, 217, 221, 225, 230, 242, 246] : List Nat).filterMap (fun i => lw_tbl[i]?) := by decide +kernel
theorem amCW8_ok : amCW8.all (fun w => goodWord w || amNest w) = true := by decide +kernel
set_option maxRecDepth 20000 in
theorem amCW9_at : amCW9 = ([181, 182, 183, 204, 579, 581, 184, 185, 154, 186, 583, 584, 358, 359, 157, 360, 585, 586, 412, 413, 159, 414, 590, 469, 419, 160, 470, 591, 471, 191, 155, 472, 592, 593, 205, 594, 474, 475, 161, 476, 582, 521, 522, 162, 523, 588, 589, 580, 632, 970, 488, 396, 279, 1178, 587, 274, 387, 1194, 282, 287, 290, 296, 1204, 389, 376, 394, 1231, 1236, 1244, 1250, 1251, 1259, 1264, 1268, 543, 545, 547, 549, 1279, 1280, 449, 451, 453, 445, 682, 532, 1337, 1346, 1350, 867, 1375, 1376, 1384, 1405, 667, 1421, 666, 1434, 1425, 1439, 644, 659, 662, 670, 678, 1447, 1459, 1463, 881, 1426, 1393, 868, 1388, 773, 168, 774, 1389, 1462] : List Nat).filterMap (fun i => lw_tbl[i]?) := by decide +kernel
theorem amCW9_ok : amCW9.all (fun w => goodWord w || amNest w) = true := by decide +kernel
set_option maxRecDepth 20000 in
theorem amCW10_at : amCW10 = ([1471, 182, 183, 205, 1476, 1477, 1478, 1479, 1480, 1489, 1490, 1491, 1492, 1493, 1494, 1495, 1496, 1497, 1498, 1499, 1500, 1501, 1502, 1503, 1504, 1505, 1506, 1507, 1508, 1509, 1510, 1511, 1512, 1513, 1514, 1515, 1518, 1520, 1528, 1533, 1534, 1546, 1547, 1548, 1549, 1550, 1551, 1553, 1554, 1555, 1557, 1747, 1558, 1560, 1561, 1562, 1563, 1564, 1472, 1481, 1523, 1779, 1768, 1521, 1522, 1526, 1525, 1524, 1772, 1775, 1781, 1782, 1527, 1804, 1789, 1764, 1824, 1517, 1800, 1856, 1836, 1820, 1793, 1852, 1844, 1848, 1832, 1840, 1860, 1864, 1808, 1530, 1529, 1796, 1816, 1828, 1519, 1760, 1516, 1785, 1488, 1484, 1483, 1482, 1812, 1531, 1532, 1921, 1925, 1537, 1917, 1929, 1538, 1539, 1540, 1933, 1936, 1535, 1943, 1947, 1951, 1536, 1913, 1939, 1954, 1998, 1994, 1990, 1552, 1542, 1543, 1544, 2030, 1541, 2006, 2010, 2014, 2018, 2026, 1986, 2002, 2022, 1556, 2038, 1905, 1909, 1545, 1982, 1974, 1978, 2034, 1901, 1970, 2070, 2074, 2066, 2058, 2062, 2078, 2086, 2090, 2054, 2082, 2094, 2106, 2102, 2050, 2098, 1876, 1880, 1888, 1892, 1897, 1962, 1966, 2046, 2122, 1559, 2118, 2114, 2125, 2149, 2141, 2145, 2153, 2165, 2169, 2161, 2181, 2184, 2177, 2188, 2196, 2216, 2220, 2228, 2229, 1565, 2245, 2241, 1485, 1486, 1487] : List Nat).filterMap (fun i => lw_tbl[i]?) := by decide +kernel
theorem amCW10_ok : amCW10.all (fun w => goodWord w || amNest w) = true := by decide +kernel
set_option maxRecDepth 20000 in
theorem amCW11_at : amCW11 = ([1201, 1202, 1203] : List Nat).filterMap (fun i => lw_tbl[i]?) := by decide +kernel
theorem amCW11_ok : amCW11.all (fun w => goodWord w || amNest w) = true := by decide +kernel
theorem amCh_j {a : Nat} (h1 : (List.range 8).all (fun j => amChk (a + j)) = true) (h2 : (List.range 8).all (fun j => amChk (a + 8 + j)) = true) : (List.range 16).all (fun j => amChk (a + j)) = true := by
  rw [List.all_eq_true] at h1 h2 ⊢
  intro x hx
  have hx := List.mem_range.mp hx
  by_cases h : x < 8
  · exact h1 x (List.mem_range.mpr h)
  · have h3 := h2 (x - 8) (List.mem_range.mpr (by omega))
    rw [show a + 8 + (x - 8) = a + x by omega] at h3
    exact h3
set_option maxRecDepth 20000 in
theorem amChk0a : (List.range 8).all (fun j => amChk (0 + j)) = true := by decide +kernel
set_option maxRecDepth 20000 in
theorem amChk0b : (List.range 8).all (fun j => amChk (8 + j)) = true := by decide +kernel
theorem amChk0 : (List.range 16).all (fun j => amChk (0 + j)) = true := amCh_j amChk0a amChk0b
set_option maxRecDepth 20000 in
theorem amChk1a : (List.range 8).all (fun j => amChk (16 + j)) = true := by decide +kernel
set_option maxRecDepth 20000 in
theorem amChk1b : (List.range 8).all (fun j => amChk (24 + j)) = true := by decide +kernel
theorem amChk1 : (List.range 16).all (fun j => amChk (16 + j)) = true := amCh_j amChk1a amChk1b
set_option maxRecDepth 20000 in
theorem amChk2a : (List.range 8).all (fun j => amChk (32 + j)) = true := by decide +kernel
set_option maxRecDepth 20000 in
theorem amChk2b : (List.range 8).all (fun j => amChk (40 + j)) = true := by decide +kernel
theorem amChk2 : (List.range 16).all (fun j => amChk (32 + j)) = true := amCh_j amChk2a amChk2b
set_option maxRecDepth 20000 in
theorem amChk3a : (List.range 8).all (fun j => amChk (48 + j)) = true := by decide +kernel
set_option maxRecDepth 20000 in
theorem amChk3b : (List.range 8).all (fun j => amChk (56 + j)) = true := by decide +kernel
theorem amChk3 : (List.range 16).all (fun j => amChk (48 + j)) = true := amCh_j amChk3a amChk3b
set_option maxRecDepth 20000 in
theorem amChk4a : (List.range 8).all (fun j => amChk (64 + j)) = true := by decide +kernel
set_option maxRecDepth 20000 in
theorem amChk4b : (List.range 8).all (fun j => amChk (72 + j)) = true := by decide +kernel
theorem amChk4 : (List.range 16).all (fun j => amChk (64 + j)) = true := amCh_j amChk4a amChk4b
set_option maxRecDepth 20000 in
theorem amChk5a : (List.range 8).all (fun j => amChk (80 + j)) = true := by decide +kernel
set_option maxRecDepth 20000 in
theorem amChk5b : (List.range 8).all (fun j => amChk (88 + j)) = true := by decide +kernel
theorem amChk5 : (List.range 16).all (fun j => amChk (80 + j)) = true := amCh_j amChk5a amChk5b
set_option maxRecDepth 20000 in
theorem amChk6a : (List.range 8).all (fun j => amChk (96 + j)) = true := by decide +kernel
set_option maxRecDepth 20000 in
theorem amChk6b : (List.range 8).all (fun j => amChk (104 + j)) = true := by decide +kernel
theorem amChk6 : (List.range 16).all (fun j => amChk (96 + j)) = true := amCh_j amChk6a amChk6b
set_option maxRecDepth 20000 in
theorem amChk7a : (List.range 8).all (fun j => amChk (112 + j)) = true := by decide +kernel
set_option maxRecDepth 20000 in
theorem amChk7b : (List.range 8).all (fun j => amChk (120 + j)) = true := by decide +kernel
theorem amChk7 : (List.range 16).all (fun j => amChk (112 + j)) = true := amCh_j amChk7a amChk7b
set_option maxRecDepth 20000 in
theorem amChk8a : (List.range 8).all (fun j => amChk (128 + j)) = true := by decide +kernel
set_option maxRecDepth 20000 in
theorem amChk8b : (List.range 8).all (fun j => amChk (136 + j)) = true := by decide +kernel
theorem amChk8 : (List.range 16).all (fun j => amChk (128 + j)) = true := amCh_j amChk8a amChk8b
set_option maxRecDepth 20000 in
theorem amChk9a : (List.range 8).all (fun j => amChk (144 + j)) = true := by decide +kernel
set_option maxRecDepth 20000 in
theorem amChk9b : (List.range 8).all (fun j => amChk (152 + j)) = true := by decide +kernel
theorem amChk9 : (List.range 16).all (fun j => amChk (144 + j)) = true := amCh_j amChk9a amChk9b
set_option maxRecDepth 20000 in
theorem amChk10a : (List.range 8).all (fun j => amChk (160 + j)) = true := by decide +kernel
set_option maxRecDepth 20000 in
theorem amChk10b : (List.range 8).all (fun j => amChk (168 + j)) = true := by decide +kernel
theorem amChk10 : (List.range 16).all (fun j => amChk (160 + j)) = true := amCh_j amChk10a amChk10b
set_option maxRecDepth 20000 in
theorem amChk11a : (List.range 8).all (fun j => amChk (176 + j)) = true := by decide +kernel
set_option maxRecDepth 20000 in
theorem amChk11b : (List.range 8).all (fun j => amChk (184 + j)) = true := by decide +kernel
theorem amChk11 : (List.range 16).all (fun j => amChk (176 + j)) = true := amCh_j amChk11a amChk11b
set_option maxRecDepth 20000 in
theorem amChk12a : (List.range 8).all (fun j => amChk (192 + j)) = true := by decide +kernel
set_option maxRecDepth 20000 in
theorem amChk12b : (List.range 8).all (fun j => amChk (200 + j)) = true := by decide +kernel
theorem amChk12 : (List.range 16).all (fun j => amChk (192 + j)) = true := amCh_j amChk12a amChk12b
set_option maxRecDepth 20000 in
theorem amChk13a : (List.range 8).all (fun j => amChk (208 + j)) = true := by decide +kernel
set_option maxRecDepth 20000 in
theorem amChk13b : (List.range 8).all (fun j => amChk (216 + j)) = true := by decide +kernel
theorem amChk13 : (List.range 16).all (fun j => amChk (208 + j)) = true := amCh_j amChk13a amChk13b
set_option maxRecDepth 20000 in
theorem amChk14a : (List.range 8).all (fun j => amChk (224 + j)) = true := by decide +kernel
set_option maxRecDepth 20000 in
theorem amChk14b : (List.range 8).all (fun j => amChk (232 + j)) = true := by decide +kernel
theorem amChk14 : (List.range 16).all (fun j => amChk (224 + j)) = true := amCh_j amChk14a amChk14b
set_option maxRecDepth 20000 in
theorem amChk15a : (List.range 8).all (fun j => amChk (240 + j)) = true := by decide +kernel
set_option maxRecDepth 20000 in
theorem amChk15b : (List.range 8).all (fun j => amChk (248 + j)) = true := by decide +kernel
theorem amChk15 : (List.range 16).all (fun j => amChk (240 + j)) = true := amCh_j amChk15a amChk15b
set_option maxRecDepth 20000 in
theorem amChk16a : (List.range 8).all (fun j => amChk (256 + j)) = true := by decide +kernel
set_option maxRecDepth 20000 in
theorem amChk16b : (List.range 8).all (fun j => amChk (264 + j)) = true := by decide +kernel
theorem amChk16 : (List.range 16).all (fun j => amChk (256 + j)) = true := amCh_j amChk16a amChk16b
set_option maxRecDepth 20000 in
theorem amChk17a : (List.range 8).all (fun j => amChk (272 + j)) = true := by decide +kernel
set_option maxRecDepth 20000 in
theorem amChk17b : (List.range 8).all (fun j => amChk (280 + j)) = true := by decide +kernel
theorem amChk17 : (List.range 16).all (fun j => amChk (272 + j)) = true := amCh_j amChk17a amChk17b
set_option maxRecDepth 20000 in
theorem amChk18 : (List.range 1).all (fun j => amChk (288 + j)) = true := by decide +kernel
