/-! The words of the methods; the table is good. -/
def amMp0 : List (List Nat) := [[160, 421], [160, 728, 729], [160, 826, 827], [160, 833, 14], [160, 724, 725], [160, 747, 748], [160, 761, 8], [160, 754, 7], [158, 369], [158, 1183, 1184], [158, 887, 888], [158, 1407, 1408], [158, 645, 646], [161, 477], [161, 971, 972], [161, 977, 19]]
def amMp1 : List (List Nat) := [[161, 980], [161, 1043], [161, 1051], [161, 988, 21], [161, 1047, 22], [161, 984, 20], [161, 991], [161, 1063, 23], [161, 1075, 26], [161, 1067, 24], [161, 1079, 27], [161, 1071, 25], [161, 1083, 28], [161, 1095, 30], [161, 1088, 29], [161, 1107, 32]]
def amMp2 : List (List Nat) := [[161, 1103, 31], [161, 1119, 34], [161, 1115, 33], [161, 1164, 40], [161, 1168, 41], [161, 1176, 43], [161, 1128, 35], [161, 1132, 36], [161, 1172, 42], [161, 1156, 39], [161, 1140, 37], [161, 1144, 38], [162, 524], [162, 683, 684], [162, 1347, 1348], [162, 1351, 1352]]
def amMp3 : List (List Nat) := [[162, 696, 3], [162, 700, 4], [162, 708, 5], [162, 823, 13], [162, 721, 6], [162, 766, 9], [162, 845, 15], [162, 794, 11], [162, 790, 10], [162, 799, 12], [162, 806, 807], [162, 849, 16], [159, 415], [159, 1281, 1282], [159, 1294, 49], [159, 1286, 48]]
def amMp4 : List (List Nat) := [[159, 1324, 50], [159, 1299], [159, 1306], [159, 1312], [159, 1320], [159, 1317], [155, 193], [155, 1058, 1059], [155, 691, 692], [155, 1411, 1412], [155, 649, 650], [155, 703, 704], [155, 711, 712], [155, 814, 815], [155, 818, 819], [155, 810, 811]]
def amMp5 : List (List Nat) := [[155, 802, 803], [155, 1195, 1196], [155, 785, 786], [155, 1338, 1339], [155, 1343, 51], [154, 187], [154, 1054, 1055], [154, 1205, 1206], [154, 732], [154, 743], [154, 687, 688], [154, 1122, 1123], [154, 1110, 1111], [154, 735, 736], [154, 739, 740], [154, 716, 717]]
def amMp6 : List (List Nat) := [[154, 1098, 1099], [154, 1147, 1148], [154, 1151, 1152], [154, 1159, 1160], [154, 840, 841], [154, 836, 837], [154, 779, 780], [154, 769, 770], [154, 862, 17], [154, 856, 857], [154, 1395, 1396], [154, 852, 853], [157, 361], [157, 1179, 1180], [157, 882, 883], [157, 671, 672]]
def amMp7 : List (List Nat) := [[157, 869, 870], [156, 210], [156, 270, 271], [156, 1135, 1136], [156, 1327, 1328], [153, 179], [153, 629, 630], [153, 901, 902], [153, 637, 638], [153, 1191, 1192], [153, 1228, 1229], [153, 1241, 1242], [153, 1256, 1257], [153, 1276, 1277], [153, 1334, 1335], [153, 1358, 1359]]
def amMp8 : List (List Nat) := [[153, 1365, 1366], [153, 1373, 1374], [153, 1382, 1383], [153, 1403, 1404], [153, 1419, 1420], [153, 1432, 1433], [153, 641, 642], [153, 656, 657], [153, 675, 676], [153, 1445, 1446], [153, 874, 875], [153, 1456, 1457], [153, 878, 879], [153, 893, 894], [153, 634, 0], [153, 1261, 46]]
def amMp9 : List (List Nat) := [[153, 1246, 45], [153, 1437, 55], [153, 1233, 44], [153, 1265], [153, 660], [153, 664, 1], [153, 668], [153, 1270, 47], [153, 1424, 54], [153, 680, 2], [153, 1450, 56], [153, 1387, 52], [153, 1392, 53], [153, 1461], [153, 1465], [163, 1470]]
def amMp10 : List (List Nat) := [[163, 1475, 57], [163, 1750, 1751], [163, 1763, 58], [163, 1795], [163, 2187, 145], [163, 1774], [163, 1771, 60], [163, 1778, 61], [163, 1784], [163, 1767, 59], [163, 1792, 63], [163, 1839, 74], [163, 1807, 66], [163, 1847, 76], [163, 1803, 65], [163, 1827, 71]]
def amMp11 : List (List Nat) := [[163, 1823, 70], [163, 1859, 79], [163, 1855, 78], [163, 1851, 77], [163, 1843, 75], [163, 1863, 80], [163, 1867, 81], [163, 1831, 72], [163, 1835, 73], [163, 1799, 64], [163, 1819, 69], [163, 1788, 62], [163, 1754, 1755], [163, 1758, 1759], [163, 1870, 1871], [163, 1815, 68]]
def amMp12 : List (List Nat) := [[163, 1811, 67], [163, 1928, 92], [163, 1924, 91], [163, 1938], [163, 1920, 90], [163, 1932, 93], [163, 1935], [163, 1916, 89], [163, 1957, 97], [163, 1942, 94], [163, 1950, 96], [163, 1953], [163, 1908, 87], [163, 1912, 88], [163, 1946, 95], [163, 2001, 107]]
def amMp13 : List (List Nat) := [[163, 1997, 106], [163, 1993, 105], [163, 1989, 104], [163, 2021, 112], [163, 2033, 115], [163, 2029, 114], [163, 2017, 111], [163, 2009, 109], [163, 2013, 110], [163, 2005, 108], [163, 2025, 113], [163, 1985, 103], [163, 2037, 116], [163, 2041, 117], [163, 1981, 102], [163, 1977, 101]]
def amMp14 : List (List Nat) := [[163, 1973, 100], [163, 1904, 86], [163, 1969, 99], [163, 2061, 121], [163, 2073, 124], [163, 2077, 125], [163, 2069, 123], [163, 2081, 126], [163, 2065, 122], [163, 2057, 120], [163, 2093, 129], [163, 2089, 128], [163, 2085, 127], [163, 2097, 130], [163, 2053, 119], [163, 2109, 133]]
def amMp15 : List (List Nat) := [[163, 2105, 132], [163, 2101, 131], [163, 2049, 118], [163, 1883, 83], [163, 1879, 82], [163, 1874, 1875], [163, 1891, 84], [163, 1886, 1887], [163, 1900, 85], [163, 1895, 1896], [163, 1965, 98], [163, 1960, 1961], [163, 2044, 2045], [163, 2124], [163, 2121, 135], [163, 2117, 134]]
def amMp16 : List (List Nat) := [[163, 2128, 136], [163, 2112, 2113], [163, 2131, 2132], [163, 2135, 2136], [163, 2144, 137], [163, 2152, 139], [163, 2148, 138], [163, 2172, 143], [163, 2156, 140], [163, 2139, 2140], [163, 2164, 141], [163, 2168, 142], [163, 2159, 2160], [163, 2183], [163, 2180, 144], [163, 2191, 146]]
def amMp17 : List (List Nat) := [[163, 2175, 2176], [163, 2199, 147], [163, 2194, 2195], [163, 2202, 2203], [163, 2206, 2207], [163, 2210, 2211], [163, 2219, 148], [163, 2223, 149], [163, 2214, 2215], [163, 2226, 2227], [163, 2232, 150], [163, 2235, 2236], [163, 2244, 151], [163, 2239, 2240], [163, 2248, 2249], [163, 2252, 2253]]
def amMp18 : List (List Nat) := [[174, 1199]]
def amMp (k : Nat) : List Nat := match k / 16 with
  | 0 => amMp0.getD (k % 16) []
  | 1 => amMp1.getD (k % 16) []
  | 2 => amMp2.getD (k % 16) []
  | 3 => amMp3.getD (k % 16) []
  | 4 => amMp4.getD (k % 16) []
  | 5 => amMp5.getD (k % 16) []
  | 6 => amMp6.getD (k % 16) []
  | 7 => amMp7.getD (k % 16) []
  | 8 => amMp8.getD (k % 16) []
  | 9 => amMp9.getD (k % 16) []
  | 10 => amMp10.getD (k % 16) []
  | 11 => amMp11.getD (k % 16) []
  | 12 => amMp12.getD (k % 16) []
  | 13 => amMp13.getD (k % 16) []
  | 14 => amMp14.getD (k % 16) []
  | 15 => amMp15.getD (k % 16) []
  | 16 => amMp16.getD (k % 16) []
  | 17 => amMp17.getD (k % 16) []
  | 18 => amMp18.getD (k % 16) []
  | _ => []
def amMw (k : Nat) : List Cond := match aK k with
  | 0 => [.initialized (aY k).cls, .instanceMethod (aY k), .selects (aY k).cls (aY k) (aY k)]
  | 1 => [.initialized (aY k).cls, .static (aY k)]
  | _ => [.initialized (aY k).cls, .instanceMethod (aY k)]
def amMs (k : Nat) : Bool := plainName (aY k).cls && (decide ((aY k).cls ≠ "java/lang/invoke/MethodHandle" ∧ (aY k).cls ≠ "java/lang/invoke/VarHandle" ∧ (parseMethodDescriptor (aY k).desc).map (fun d => d.parameters.length) = some (if aK k = 1 then (aA k).1 else (aA k).1 - 1)) && (decide (aPc k 0 = 0) && (decide (aK k = 0 → (aA k).2.2 < 11 ∧ amRX (aA k).2.2 = (aY k).cls) && (decide (aK k = 2 → (aY k).name = "<init>" ∧ aR k = none) && decide (aK k < 3)))))
def amMb (k : Nat) : Bool := decide (amMw k = (amMp k).filterMap (fun i => lw_tbl[i]?)) && ((amMw k).all goodWord && amMs k)
set_option maxRecDepth 20000 in
theorem amMb0 : (List.range 16).all (fun j => amMb (0 + j)) = true := by decide +kernel
set_option maxRecDepth 20000 in
theorem amMb1 : (List.range 16).all (fun j => amMb (16 + j)) = true := by decide +kernel
set_option maxRecDepth 20000 in
theorem amMb2 : (List.range 16).all (fun j => amMb (32 + j)) = true := by decide +kernel
set_option maxRecDepth 20000 in
theorem amMb3 : (List.range 16).all (fun j => amMb (48 + j)) = true := by decide +kernel
set_option maxRecDepth 20000 in
theorem amMb4 : (List.range 16).all (fun j => amMb (64 + j)) = true := by decide +kernel
set_option maxRecDepth 20000 in
theorem amMb5 : (List.range 16).all (fun j => amMb (80 + j)) = true := by decide +kernel
set_option maxRecDepth 20000 in
theorem amMb6 : (List.range 16).all (fun j => amMb (96 + j)) = true := by decide +kernel
set_option maxRecDepth 20000 in
theorem amMb7 : (List.range 16).all (fun j => amMb (112 + j)) = true := by decide +kernel
set_option maxRecDepth 20000 in
theorem amMb8 : (List.range 16).all (fun j => amMb (128 + j)) = true := by decide +kernel
set_option maxRecDepth 20000 in
theorem amMb9 : (List.range 16).all (fun j => amMb (144 + j)) = true := by decide +kernel
set_option maxRecDepth 20000 in
theorem amMb10 : (List.range 16).all (fun j => amMb (160 + j)) = true := by decide +kernel
set_option maxRecDepth 20000 in
theorem amMb11 : (List.range 16).all (fun j => amMb (176 + j)) = true := by decide +kernel
set_option maxRecDepth 20000 in
theorem amMb12 : (List.range 16).all (fun j => amMb (192 + j)) = true := by decide +kernel
set_option maxRecDepth 20000 in
theorem amMb13 : (List.range 16).all (fun j => amMb (208 + j)) = true := by decide +kernel
set_option maxRecDepth 20000 in
theorem amMb14 : (List.range 16).all (fun j => amMb (224 + j)) = true := by decide +kernel
set_option maxRecDepth 20000 in
theorem amMb15 : (List.range 16).all (fun j => amMb (240 + j)) = true := by decide +kernel
set_option maxRecDepth 20000 in
theorem amMb16 : (List.range 16).all (fun j => amMb (256 + j)) = true := by decide +kernel
set_option maxRecDepth 20000 in
theorem amMb17 : (List.range 16).all (fun j => amMb (272 + j)) = true := by decide +kernel
set_option maxRecDepth 20000 in
theorem amMb18 : (List.range 1).all (fun j => amMb (288 + j)) = true := by decide +kernel
