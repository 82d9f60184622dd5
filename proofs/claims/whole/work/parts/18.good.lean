/-! The words of the methods; the table is good. -/
def amMp0 : List (List Nat) := [[160, 421], [160, 728, 729], [160, 826, 827], [160, 833, 14], [160, 724, 725], [160, 747, 748], [160, 761, 8], [160, 754, 7], [158, 369], [158, 1183, 1184], [158, 887, 888], [158, 1406, 1407], [158, 645, 646], [161, 477], [161, 971, 972], [161, 977, 19]]
def amMp1 : List (List Nat) := [[161, 980], [161, 1043], [161, 1051], [161, 988, 21], [161, 1047, 22], [161, 984, 20], [161, 991], [161, 1063, 23], [161, 1075, 26], [161, 1067, 24], [161, 1079, 27], [161, 1071, 25], [161, 1083, 28], [161, 1095, 30], [161, 1088, 29], [161, 1107, 32]]
def amMp2 : List (List Nat) := [[161, 1103, 31], [161, 1119, 34], [161, 1115, 33], [161, 1164, 40], [161, 1168, 41], [161, 1176, 43], [161, 1128, 35], [161, 1132, 36], [161, 1172, 42], [161, 1156, 39], [161, 1140, 37], [161, 1144, 38], [162, 524], [162, 683, 684], [162, 1347, 1348], [162, 1351, 1352]]
def amMp3 : List (List Nat) := [[162, 696, 3], [162, 700, 4], [162, 708, 5], [162, 823, 13], [162, 721, 6], [162, 766, 9], [162, 845, 15], [162, 794, 11], [162, 790, 10], [162, 799, 12], [162, 806, 807], [162, 849, 16], [159, 415], [159, 1281, 1282], [159, 1294, 49], [159, 1286, 48]]
def amMp4 : List (List Nat) := [[159, 1324, 50], [159, 1299], [159, 1306], [159, 1312], [159, 1320], [159, 1317], [155, 193], [155, 1058, 1059], [155, 691, 692], [155, 1410, 1411], [155, 649, 650], [155, 703, 704], [155, 711, 712], [155, 814, 815], [155, 818, 819], [155, 810, 811]]
def amMp5 : List (List Nat) := [[155, 802, 803], [155, 1195, 1196], [155, 785, 786], [155, 1338, 1339], [155, 1343, 51], [154, 187], [154, 1054, 1055], [154, 1205, 1206], [154, 732], [154, 743], [154, 687, 688], [154, 1122, 1123], [154, 1110, 1111], [154, 735, 736], [154, 739, 740], [154, 716, 717]]
def amMp6 : List (List Nat) := [[154, 1098, 1099], [154, 1147, 1148], [154, 1151, 1152], [154, 1159, 1160], [154, 840, 841], [154, 836, 837], [154, 779, 780], [154, 769, 770], [154, 862, 17], [154, 856, 857], [154, 1394, 1395], [154, 852, 853], [157, 361], [157, 1179, 1180], [157, 882, 883], [157, 671, 672]]
def amMp7 : List (List Nat) := [[157, 869, 870], [156, 210], [156, 270, 271], [156, 1135, 1136], [156, 1327, 1328], [153, 179], [153, 629, 630], [153, 901, 902], [153, 637, 638], [153, 1191, 1192], [153, 1228, 1229], [153, 1241, 1242], [153, 1256, 1257], [153, 1276, 1277], [153, 1334, 1335], [153, 1358, 1359]]
def amMp8 : List (List Nat) := [[153, 1365, 1366], [153, 1372, 1373], [153, 1381, 1382], [153, 1402, 1403], [153, 1418, 1419], [153, 1431, 1432], [153, 641, 642], [153, 656, 657], [153, 675, 676], [153, 1444, 1445], [153, 874, 875], [153, 1455, 1456], [153, 878, 879], [153, 893, 894], [153, 634, 0], [153, 1261, 46]]
def amMp9 : List (List Nat) := [[153, 1246, 45], [153, 1436, 55], [153, 1233, 44], [153, 1265], [153, 660], [153, 664, 1], [153, 668], [153, 1270, 47], [153, 1423, 54], [153, 680, 2], [153, 1449, 56], [153, 1386, 52], [153, 1391, 53], [153, 1460], [153, 1464], [163, 1469]]
def amMp10 : List (List Nat) := [[163, 1474, 57], [163, 1749, 1750], [163, 1762, 58], [163, 1794], [163, 2186, 145], [163, 1773], [163, 1770, 60], [163, 1777, 61], [163, 1783], [163, 1766, 59], [163, 1791, 63], [163, 1838, 74], [163, 1806, 66], [163, 1846, 76], [163, 1802, 65], [163, 1826, 71]]
def amMp11 : List (List Nat) := [[163, 1822, 70], [163, 1858, 79], [163, 1854, 78], [163, 1850, 77], [163, 1842, 75], [163, 1862, 80], [163, 1866, 81], [163, 1830, 72], [163, 1834, 73], [163, 1798, 64], [163, 1818, 69], [163, 1787, 62], [163, 1753, 1754], [163, 1757, 1758], [163, 1869, 1870], [163, 1814, 68]]
def amMp12 : List (List Nat) := [[163, 1810, 67], [163, 1927, 92], [163, 1923, 91], [163, 1937], [163, 1919, 90], [163, 1931, 93], [163, 1934], [163, 1915, 89], [163, 1956, 97], [163, 1941, 94], [163, 1949, 96], [163, 1952], [163, 1907, 87], [163, 1911, 88], [163, 1945, 95], [163, 2000, 107]]
def amMp13 : List (List Nat) := [[163, 1996, 106], [163, 1992, 105], [163, 1988, 104], [163, 2020, 112], [163, 2032, 115], [163, 2028, 114], [163, 2016, 111], [163, 2008, 109], [163, 2012, 110], [163, 2004, 108], [163, 2024, 113], [163, 1984, 103], [163, 2036, 116], [163, 2040, 117], [163, 1980, 102], [163, 1976, 101]]
def amMp14 : List (List Nat) := [[163, 1972, 100], [163, 1903, 86], [163, 1968, 99], [163, 2060, 121], [163, 2072, 124], [163, 2076, 125], [163, 2068, 123], [163, 2080, 126], [163, 2064, 122], [163, 2056, 120], [163, 2092, 129], [163, 2088, 128], [163, 2084, 127], [163, 2096, 130], [163, 2052, 119], [163, 2108, 133]]
def amMp15 : List (List Nat) := [[163, 2104, 132], [163, 2100, 131], [163, 2048, 118], [163, 1882, 83], [163, 1878, 82], [163, 1873, 1874], [163, 1890, 84], [163, 1885, 1886], [163, 1899, 85], [163, 1894, 1895], [163, 1964, 98], [163, 1959, 1960], [163, 2043, 2044], [163, 2123], [163, 2120, 135], [163, 2116, 134]]
def amMp16 : List (List Nat) := [[163, 2127, 136], [163, 2111, 2112], [163, 2130, 2131], [163, 2134, 2135], [163, 2143, 137], [163, 2151, 139], [163, 2147, 138], [163, 2171, 143], [163, 2155, 140], [163, 2138, 2139], [163, 2163, 141], [163, 2167, 142], [163, 2158, 2159], [163, 2182], [163, 2179, 144], [163, 2190, 146]]
def amMp17 : List (List Nat) := [[163, 2174, 2175], [163, 2198, 147], [163, 2193, 2194], [163, 2201, 2202], [163, 2205, 2206], [163, 2209, 2210], [163, 2218, 148], [163, 2222, 149], [163, 2213, 2214], [163, 2225, 2226], [163, 2231, 150], [163, 2234, 2235], [163, 2243, 151], [163, 2238, 2239], [163, 2247, 2248], [163, 2251, 2252]]
def amMp18 : List (List Nat) := [[174, 1199]]
def amMp (k : Nat) : List Nat := match k / 16 with
  | 0 => amMp0.getD (k % 16) []
  | 1 => amMp1.getD (k % 16) []
  | 2 => amMp2.getD (k % 16) []
  | 3 => amMp3.getD (k % 16) []
  | 4 => amMp4.getD (k % 16) []
  | 5 => amMp5.getD (k % 16) []
  | 6 => amMp6.getD (k % 16) []
  | 7 => amMp7.getD (k % 16) []
  | 8 => amMp8.getD (k % 16) []
  | 9 => amMp9.getD (k % 16) []
  | 10 => amMp10.getD (k % 16) []
  | 11 => amMp11.getD (k % 16) []
  | 12 => amMp12.getD (k % 16) []
  | 13 => amMp13.getD (k % 16) []
  | 14 => amMp14.getD (k % 16) []
  | 15 => amMp15.getD (k % 16) []
  | 16 => amMp16.getD (k % 16) []
  | 17 => amMp17.getD (k % 16) []
  | 18 => amMp18.getD (k % 16) []
  | _ => []
def amMw (k : Nat) : List Cond := match aK k with
  | 0 => [.initialized (aY k).cls, .instanceMethod (aY k), .selects (aY k).cls (aY k) (aY k)]
  | 1 => [.initialized (aY k).cls, .static (aY k)]
  | _ => [.initialized (aY k).cls, .instanceMethod (aY k)]
def amMs (k : Nat) : Bool := plainName (aY k).cls && (decide ((aY k).cls ≠ "java/lang/invoke/MethodHandle" ∧ (aY k).cls ≠ "java/lang/invoke/VarHandle" ∧ (parseMethodDescriptor (aY k).desc).map (fun d => d.parameters.length) = some (if aK k = 1 then (aA k).1 else (aA k).1 - 1)) && (decide (aPc k 0 = 0) && (decide (aK k = 0 → (aA k).2.2 < 11 ∧ amRX (aA k).2.2 = (aY k).cls) && (decide (aK k = 2 → (aY k).name = "<init>" ∧ aR k = none) && decide (aK k < 3)))))
def amMb (k : Nat) : Bool := decide (amMw k = (amMp k).filterMap (fun i => lw_tbl[i]?)) && ((amMw k).all goodWord && amMs k)
set_option maxRecDepth 20000 in
theorem amMb0 : (List.range 16).all (fun j => amMb (0 + j)) = true := by decide +kernel
set_option maxRecDepth 20000 in
theorem amMb1 : (List.range 16).all (fun j => amMb (16 + j)) = true := by decide +kernel
set_option maxRecDepth 20000 in
theorem amMb2 : (List.range 16).all (fun j => amMb (32 + j)) = true := by decide +kernel
set_option maxRecDepth 20000 in
theorem amMb3 : (List.range 16).all (fun j => amMb (48 + j)) = true := by decide +kernel
set_option maxRecDepth 20000 in
theorem amMb4 : (List.range 16).all (fun j => amMb (64 + j)) = true := by decide +kernel
set_option maxRecDepth 20000 in
theorem amMb5 : (List.range 16).all (fun j => amMb (80 + j)) = true := by decide +kernel
set_option maxRecDepth 20000 in
theorem amMb6 : (List.range 16).all (fun j => amMb (96 + j)) = true := by decide +kernel
set_option maxRecDepth 20000 in
theorem amMb7 : (List.range 16).all (fun j => amMb (112 + j)) = true := by decide +kernel
set_option maxRecDepth 20000 in
theorem amMb8 : (List.range 16).all (fun j => amMb (128 + j)) = true := by decide +kernel
set_option maxRecDepth 20000 in
theorem amMb9 : (List.range 16).all (fun j => amMb (144 + j)) = true := by decide +kernel
set_option maxRecDepth 20000 in
theorem amMb10 : (List.range 16).all (fun j => amMb (160 + j)) = true := by decide +kernel
set_option maxRecDepth 20000 in
theorem amMb11 : (List.range 16).all (fun j => amMb (176 + j)) = true := by decide +kernel
set_option maxRecDepth 20000 in
theorem amMb12 : (List.range 16).all (fun j => amMb (192 + j)) = true := by decide +kernel
set_option maxRecDepth 20000 in
theorem amMb13 : (List.range 16).all (fun j => amMb (208 + j)) = true := by decide +kernel
set_option maxRecDepth 20000 in
theorem amMb14 : (List.range 16).all (fun j => amMb (224 + j)) = true := by decide +kernel
set_option maxRecDepth 20000 in
theorem amMb15 : (List.range 16).all (fun j => amMb (240 + j)) = true := by decide +kernel
set_option maxRecDepth 20000 in
theorem amMb16 : (List.range 16).all (fun j => amMb (256 + j)) = true := by decide +kernel
set_option maxRecDepth 20000 in
theorem amMb17 : (List.range 16).all (fun j => amMb (272 + j)) = true := by decide +kernel
set_option maxRecDepth 20000 in
theorem amMb18 : (List.range 1).all (fun j => amMb (288 + j)) = true := by decide +kernel
