/-! ===== the layout: cells 1 to 280 in the order of making, by program ===== -/
def KD : List Nat := [99, 11, 9, 8, 20, 23, 24, 20, 1, 20, 20, 20, 20, 20, 1, 20, 20, 20, 20, 20, 2, 20, 20, 20, 2, 20, 20, 20, 2, 20, 20, 20, 2, 20, 20, 20, 2, 20, 20, 20, 2, 20, 20, 20, 26, 22, 4, 1, 20, 20, 20, 20, 20, 2, 20, 20, 20, 7, 25, 20, 20, 20, 20, 20, 1, 20, 20, 20, 20, 20, 0, 20, 20, 20, 0, 20, 20, 20, 0, 20, 20, 20, 0, 20, 20, 20, 0, 20, 20, 20, 5, 0, 20, 20, 20, 20, 20, 20, 20, 6, 20, 20, 20, 20, 20, 20, 20, 1, 20, 20, 20, 20, 20, 10, 20, 20, 20, 1, 20, 20, 20, 20, 20, 3, 20, 9, 8, 20, 23, 24, 20, 1, 20, 20, 20, 20, 20, 1, 20, 20, 20, 20, 20, 2, 20, 20, 20, 2, 20, 20, 20, 2, 20, 20, 20, 2, 20, 20, 20, 2, 20, 20, 20, 2, 20, 20, 20, 9, 8, 20, 23, 24, 20, 1, 20, 20, 20, 20, 20, 1, 20, 20, 20, 20, 20, 2, 20, 20, 20, 2, 20, 20, 20, 2, 20, 20, 20, 2, 20, 20, 20, 2, 20, 20, 20, 2, 20, 20, 20, 9, 8, 20, 23, 24, 20, 1, 20, 20, 20, 20, 20, 1, 20, 20, 20, 20, 20, 2, 20, 20, 20, 2, 20, 20, 20, 2, 20, 20, 20, 2, 20, 20, 20, 2, 20, 20, 20, 2, 20, 20, 20, 12, 21, 20, 20, 20, 20, 20, 20, 20, 20, 20, 20, 20, 20, 20, 20, 20, 20, 20, 20, 20, 20, 20, 20, 20, 20, 20, 20, 20, 22]
def LN : List Nat := [0, 0, 0, 0, 600, 2, 8, 4, 0, 5, 5, 5, 8, 8, 0, 5, 5, 5, 8, 8, 0, 40, 40, 40, 0, 40, 40, 40, 0, 10, 10, 10, 0, 10, 10, 10, 0, 7, 7, 7, 0, 7, 7, 7, 3, 3, 0, 0, 5, 5, 5, 8, 8, 0, 40, 40, 40, 0, 5, 8, 8, 8, 64, 5, 0, 5, 5, 5, 8, 8, 0, 12, 12, 12, 0, 12, 12, 12, 0, 12, 12, 12, 0, 12, 12, 12, 0, 12, 12, 12, 0, 0, 12, 12, 12, 20, 5, 4, 7, 0, 6, 6, 6, 5, 5, 6, 6, 0, 5, 5, 5, 8, 8, 0, 5, 5, 5, 0, 5, 5, 5, 8, 8, 0, 256, 0, 0, 600, 2, 8, 4, 0, 5, 5, 5, 8, 8, 0, 5, 5, 5, 8, 8, 0, 40, 40, 40, 0, 40, 40, 40, 0, 10, 10, 10, 0, 10, 10, 10, 0, 7, 7, 7, 0, 7, 7, 7, 0, 0, 600, 2, 8, 4, 0, 5, 5, 5, 8, 8, 0, 5, 5, 5, 8, 8, 0, 40, 40, 40, 0, 40, 40, 40, 0, 10, 10, 10, 0, 10, 10, 10, 0, 7, 7, 7, 0, 7, 7, 7, 0, 0, 600, 2, 8, 4, 0, 5, 5, 5, 8, 8, 0, 5, 5, 5, 8, 8, 0, 40, 40, 40, 0, 40, 40, 40, 0, 10, 10, 10, 0, 10, 10, 10, 0, 7, 7, 7, 0, 7, 7, 7, 0, 2400, 4, 4, 4, 16, 264, 968, 248, 64, 121, 3, 80, 80, 80, 5, 5, 5, 5, 8, 8, 64, 8, 8, 5, 8, 8, 256, 1536, 3]
def RF : List (List Nat) := [[], [2, 44, 45, 46, 57, 90, 99, 113, 123], [3, 5, 6, 7, 0, 0], [4, 0], [], [], [], [], [9, 10, 11, 12, 13, 0, 0], [], [], [], [], [], [15, 16, 17, 18, 19, 0, 0], [], [], [], [], [], [21, 22, 23, 0], [], [], [], [25, 26, 27, 0], [], [], [], [29, 30, 31, 0], [], [], [], [33, 34, 35, 0], [], [], [], [37, 38, 39, 0], [], [], [], [41, 42, 43, 0], [], [], [], [], [], [47, 53, 3, 0, 0, 0, 0, 0, 0], [48, 49, 50, 51, 52, 0, 0], [], [], [], [], [], [54, 55, 56, 0], [], [], [], [58, 59, 60, 61, 62, 63, 0, 0, 0, 0, 0, 0], [], [], [], [], [], [], [65, 66, 67, 68, 69, 0, 0], [], [], [], [], [], [71, 72, 73, 0, 0, 0, 0], [], [], [], [75, 76, 77, 0, 0, 0, 0], [], [], [], [79, 80, 81, 0, 0, 0, 0], [], [], [], [83, 84, 85, 0, 0, 0, 0], [], [], [], [87, 88, 89, 0, 0, 0, 0], [], [], [], [91, 95, 96, 97, 98, 0, 0, 0, 0, 0], [92, 93, 94, 0, 0, 0, 0], [], [], [], [], [], [], [], [100, 101, 102, 103, 104, 105, 106, 0, 0, 0, 0], [], [], [], [], [], [], [], [108, 109, 110, 111, 112, 0, 0], [], [], [], [], [], [114, 115, 116, 0, 0], [], [], [], [118, 119, 120, 121, 122, 0, 0], [], [], [], [], [], [124], [], [126, 128, 129, 130, 0, 0], [127, 0], [], [], [], [], [132, 133, 134, 135, 136, 0, 0], [], [], [], [], [], [138, 139, 140, 141, 142, 0, 0], [], [], [], [], [], [144, 145, 146, 0], [], [], [], [148, 149, 150, 0], [], [], [], [152, 153, 154, 0], [], [], [], [156, 157, 158, 0], [], [], [], [160, 161, 162, 0], [], [], [], [164, 165, 166, 0], [], [], [], [168, 170, 171, 172, 0, 0], [169, 0], [], [], [], [], [174, 175, 176, 177, 178, 0, 0], [], [], [], [], [], [180, 181, 182, 183, 184, 0, 0], [], [], [], [], [], [186, 187, 188, 0], [], [], [], [190, 191, 192, 0], [], [], [], [194, 195, 196, 0], [], [], [], [198, 199, 200, 0], [], [], [], [202, 203, 204, 0], [], [], [], [206, 207, 208, 0], [], [], [], [210, 212, 213, 214, 0, 0], [211, 0], [], [], [], [], [216, 217, 218, 219, 220, 0, 0], [], [], [], [], [], [222, 223, 224, 225, 226, 0, 0], [], [], [], [], [], [228, 229, 230, 0], [], [], [], [232, 233, 234, 0], [], [], [], [236, 237, 238, 0], [], [], [], [240, 241, 242, 0], [], [], [], [244, 245, 246, 0], [], [], [], [248, 249, 250, 0], [], [], [], [0, 252, 253, 254, 255, 256, 257, 258, 259, 260, 0, 0, 0, 0, 0, 0, 0, 0, 0, 261, 262, 0, 0, 0, 0, 0, 0, 263, 264, 265, 266, 267, 268, 269, 270, 271, 272, 273, 0, 0, 0, 0, 0, 0, 274, 275, 0, 0, 0, 0, 276, 277, 0, 0, 278, 0, 0, 0, 0, 279, 280], [], [], [], [], [], [], [], [], [], [], [], [], [], [], [], [], [], [], [], [], [], [], [], [], [], [], [], [], []]
def EL : List (List Nat) := [[], [], [], [], [], [8, 14], [0, 0, 20, 24, 28, 32, 36, 40], [], [], [], [], [], [], [], [], [], [], [], [], [], [], [], [], [], [], [], [], [], [], [], [], [], [], [], [], [], [], [], [], [], [], [], [], [], [125, 167, 209], [], [], [], [], [], [], [], [], [], [], [], [], [], [70, 74, 78, 82, 86], [], [], [], [], [], [], [], [], [], [], [], [], [], [], [], [], [], [], [], [], [], [], [], [], [], [], [], [], [], [], [], [], [], [], [], [], [], [], [], [], [], [], [], [], [], [], [], [], [], [], [], [], [], [], [], [], [], [], [], [], [], [], [], [], [], [], [], [], [], [131, 137], [0, 0, 143, 147, 151, 155, 159, 163], [], [], [], [], [], [], [], [], [], [], [], [], [], [], [], [], [], [], [], [], [], [], [], [], [], [], [], [], [], [], [], [], [], [], [], [], [], [], [], [], [173, 179], [0, 0, 185, 189, 193, 197, 201, 205], [], [], [], [], [], [], [], [], [], [], [], [], [], [], [], [], [], [], [], [], [], [], [], [], [], [], [], [], [], [], [], [], [], [], [], [], [], [], [], [], [215, 221], [0, 0, 227, 231, 235, 239, 243, 247], [], [], [], [], [], [], [], [], [], [], [], [], [], [], [], [], [], [], [], [], [], [], [], [], [], [], [], [], [], [], [], [], [], [], [], [], [], [], [], [], [], [], [], [], [], [], [], [], [], [], [], [], [], [], [], [], [], [], [], [], [], [], [], [], [], [], []]
def SL : List (List Nat) := [[1, 1, 1, 0, 0, 0, 0], [1, 1, 1, 1, 1, 0, 0], [1, 1, 1, 0], [1], [1, 1, 1, 0, 0, 0, 0, 0, 0], [1, 1, 1, 1, 1, 0, 0, 0, 0, 0], [1, 1, 1, 1, 1, 1, 1, 2, 0, 0, 0], [1, 1, 1, 1, 1, 1, 2, 0, 0, 0, 0, 0], [1, 0], [1, 1, 1, 1, 0, 0], [1, 1, 1, 2, 0], [1, 1, 1, 1, 1, 1, 1, 1, 1], [0, 1, 1, 1, 1, 1, 1, 1, 1, 1, 0, 0, 0, 0, 0, 3, 0, 0, 0, 1, 1, 0, 0, 0, 0, 0, 0, 1, 1, 1, 1, 1, 1, 1, 1, 1, 1, 1, 0, 0, 0, 0, 0, 0, 1, 1, 0, 0, 0, 0, 1, 1, 0, 0, 1, 0, 0, 0, 0, 1, 1]]
def NF : List Nat := [7, 7, 4, 1, 9, 10, 11, 12, 2, 6, 5, 9, 61]
def RNL : List String := [RX0, RX1, RX2, RX3, RX4, RX5, RX6, RX7, RX8, RX9, RX10, RX11, RX12, "GrainInnLaw", "java/lang/Integer", "java/util/Arrays", "java/lang/String", "java/lang/StringLatin1"]
def RN (k : Nat) : String := RNL.getD k ""
def TNL : List u_T := [TX0, TX1, TX2, TX3, TX4, TX5, TX6, TX7, TX8, TX9, TX10, TX11, TX12]
def TN (k : Nat) : u_T := TNL.getD k (fun _ => ("", "", "", false))
/-- field links: the file, the entry, the class, the place -/
def FLX : List ((Nat × Nat × Nat × Nat) × Nat) := [((8, 9, 8, 0), 42), ((8, 15, 8, 1), 43), ((4, 64, 8, 1), 44), ((1, 9, 1, 0), 60), ((1, 15, 1, 1), 61), ((1, 18, 1, 2), 62), ((1, 21, 1, 3), 63), ((1, 24, 1, 4), 64), ((1, 27, 1, 5), 65), ((10, 59, 1, 5), 66), ((5, 99, 1, 5), 67), ((11, 111, 1, 5), 68), ((6, 119, 1, 5), 69), ((4, 92, 1, 5), 70), ((7, 197, 1, 5), 71), ((1, 31, 1, 6), 72), ((10, 39, 1, 6), 73), ((3, 46, 1, 6), 74), ((6, 112, 1, 6), 75), ((11, 116, 1, 6), 76), ((4, 166, 1, 6), 77), ((7, 200, 1, 6), 78), ((2, 21, 2, 0), 105), ((2, 25, 2, 1), 106), ((2, 28, 2, 2), 107), ((2, 9, 2, 3), 108), ((6, 72, 2, 3), 109), ((5, 122, 2, 3), 110), ((11, 146, 2, 3), 111), ((4, 95, 2, 3), 112), ((9, 12, 9, 0), 122), ((11, 26, 9, 0), 123), ((9, 20, 9, 1), 124), ((9, 26, 9, 2), 125), ((9, 30, 9, 3), 126), ((9, 34, 9, 4), 127), ((11, 105, 9, 4), 128), ((9, 38, 9, 5), 129), ((11, 106, 9, 5), 130), ((4, 12, 4, 0), 155), ((9, 92, 4, 0), 156), ((4, 23, 4, 1), 157), ((9, 87, 4, 1), 158), ((4, 46, 4, 2), 159), ((4, 27, 4, 3), 160), ((11, 90, 4, 3), 161), ((4, 31, 4, 4), 162), ((11, 94, 4, 4), 163), ((4, 34, 4, 5), 164), ((4, 37, 4, 6), 165), ((4, 40, 4, 7), 166), ((4, 43, 4, 8), 167), ((0, 11, 0, 0), 203), ((0, 15, 0, 1), 204), ((0, 18, 0, 2), 205), ((0, 21, 0, 3), 206), ((3, 15, 0, 3), 207), ((11, 217, 0, 3), 208), ((7, 177, 0, 3), 209), ((0, 25, 0, 4), 210), ((6, 63, 0, 4), 211), ((5, 82, 0, 4), 212), ((7, 126, 0, 4), 213), ((11, 367, 0, 4), 214), ((0, 28, 0, 5), 215), ((7, 70, 0, 5), 216), ((11, 370, 0, 5), 217), ((0, 31, 0, 6), 218), ((7, 169, 0, 6), 219), ((7, 11, 7, 0), 235), ((7, 17, 7, 1), 236), ((7, 21, 7, 2), 237), ((7, 24, 7, 3), 238), ((7, 27, 7, 4), 239), ((7, 30, 7, 5), 240), ((7, 36, 7, 6), 241), ((6, 50, 7, 6), 242), ((10, 32, 7, 6), 243), ((5, 64, 7, 6), 244), ((11, 179, 7, 6), 245), ((7, 40, 7, 7), 246), ((5, 61, 7, 7), 247), ((11, 159, 7, 7), 248), ((7, 44, 7, 8), 249), ((11, 162, 7, 8), 250), ((7, 47, 7, 9), 251), ((11, 165, 7, 9), 252), ((7, 50, 7, 10), 253), ((11, 203, 7, 10), 254), ((7, 53, 7, 11), 255), ((11, 206, 7, 11), 256), ((5, 12, 5, 0), 290), ((5, 18, 5, 1), 291), ((5, 22, 5, 2), 292), ((5, 25, 5, 3), 293), ((5, 28, 5, 4), 294), ((5, 31, 5, 5), 295), ((11, 252, 5, 5), 296), ((5, 35, 5, 6), 297), ((11, 255, 5, 6), 298), ((5, 38, 5, 7), 299), ((11, 258, 5, 7), 300), ((5, 41, 5, 8), 301), ((5, 45, 5, 9), 302), ((6, 9, 6, 0), 332), ((6, 15, 6, 1), 333), ((6, 18, 6, 2), 334), ((6, 21, 6, 3), 335), ((6, 24, 6, 4), 336), ((6, 27, 6, 5), 337), ((6, 30, 6, 6), 338), ((6, 36, 6, 7), 339), ((6, 40, 6, 8), 340), ((11, 233, 6, 8), 341), ((6, 44, 6, 9), 342), ((11, 236, 6, 9), 343), ((6, 47, 6, 10), 344), ((11, 239, 6, 10), 345), ((10, 9, 10, 0), 377), ((10, 15, 10, 1), 378), ((10, 18, 10, 2), 379), ((10, 24, 10, 3), 380), ((10, 28, 10, 4), 381), ((11, 348, 10, 4), 382), ((3, 9, 3, 0), 400), ((11, 10, 11, 0), 404), ((11, 16, 11, 1), 405), ((11, 20, 11, 2), 406), ((11, 33, 11, 3), 407), ((11, 40, 11, 4), 408), ((11, 47, 11, 5), 409), ((11, 54, 11, 6), 410), ((11, 61, 11, 7), 411), ((11, 68, 11, 8), 412), ((12, 99, 12, 0), 1229), ((12, 7, 12, 1), 1230), ((12, 13, 12, 2), 1231), ((12, 17, 12, 3), 1232), ((12, 20, 12, 4), 1233), ((12, 23, 12, 5), 1234), ((12, 26, 12, 6), 1235), ((12, 29, 12, 7), 1236), ((12, 32, 12, 8), 1237), ((12, 35, 12, 9), 1238), ((12, 119, 12, 10), 1239), ((12, 122, 12, 11), 1240), ((12, 129, 12, 12), 1241), ((12, 136, 12, 13), 1242), ((12, 139, 12, 14), 1243), ((12, 132, 12, 15), 1244), ((12, 142, 12, 16), 1245), ((12, 145, 12, 17), 1246), ((12, 148, 12, 18), 1247), ((12, 38, 12, 19), 1248), ((12, 41, 12, 20), 1249), ((12, 173, 12, 21), 1250), ((12, 159, 12, 22), 1251), ((12, 267, 12, 23), 1252), ((12, 274, 12, 24), 1253), ((12, 277, 12, 25), 1254), ((12, 286, 12, 26), 1255), ((12, 44, 12, 27), 1256), ((12, 47, 12, 28), 1257), ((12, 50, 12, 29), 1258), ((12, 53, 12, 30), 1259), ((12, 56, 12, 31), 1260), ((12, 59, 12, 32), 1261), ((12, 62, 12, 33), 1262), ((12, 65, 12, 34), 1263), ((12, 68, 12, 35), 1264), ((12, 71, 12, 36), 1265), ((12, 74, 12, 37), 1266), ((12, 298, 12, 38), 1267), ((12, 301, 12, 39), 1268), ((12, 304, 12, 40), 1269), ((12, 386, 12, 41), 1270), ((12, 389, 12, 42), 1271), ((12, 402, 12, 43), 1272), ((12, 77, 12, 44), 1273), ((12, 80, 12, 45), 1274), ((12, 433, 12, 46), 1275), ((12, 436, 12, 47), 1276), ((12, 439, 12, 48), 1277), ((12, 454, 12, 49), 1278), ((12, 83, 12, 50), 1279), ((12, 86, 12, 51), 1280), ((12, 469, 12, 52), 1281), ((12, 466, 12, 53), 1282), ((12, 89, 12, 54), 1283), ((12, 494, 12, 55), 1284), ((12, 501, 12, 56), 1285), ((12, 519, 12, 57), 1286), ((12, 525, 12, 58), 1287), ((12, 92, 12, 59), 1288), ((12, 95, 12, 60), 1289)]
def FLT : List (Nat × Nat × Nat × Nat) := FLX.map Prod.fst
def OFT : List (Nat × Nat) := [(0, 1), (1, 2), (2, 3), (100, 1), (101, 2), (102, 3), (103, 4), (104, 5), (200, 1), (201, 2), (202, 3), (300, 1), (400, 1), (401, 7), (402, 1003), (500, 1), (501, 5), (502, 6), (503, 7), (504, 8), (600, 1), (601, 2), (602, 3), (603, 4), (604, 5), (605, 6), (606, 7), (700, 1), (701, 2), (702, 3), (703, 4), (704, 5), (705, 6), (800, 1), (900, 1), (901, 3), (902, 4), (903, 5), (1000, 1), (1001, 2), (1002, 3), (1100, 1), (1101, 43), (1102, 44), (1103, 45), (1104, 56), (1105, 89), (1106, 98), (1107, 112), (1108, 122), (1201, 1), (1202, 2), (1203, 3), (1204, 4), (1205, 5), (1206, 6), (1207, 7), (1208, 8), (1209, 9), (1219, 10), (1220, 11), (1227, 12), (1228, 13), (1229, 14), (1230, 15), (1231, 16), (1232, 17), (1233, 18), (1234, 19), (1235, 20), (1236, 21), (1237, 22), (1244, 23), (1245, 24), (1250, 25), (1251, 26), (1254, 27), (1259, 28), (1260, 29)]
def XLX : List ((Nat × Nat × Nat) × Nat) := [((2, 15, 1), 102), ((1, 40, 3), 667), ((0, 51, 1), 831), ((6, 143, 3), 950), ((3, 31, 2), 1014), ((5, 106, 2), 1169), ((10, 67, 2), 1191), ((10, 77, 3), 1193), ((8, 23, 3), 1217), ((9, 53, 3), 1218)]
def XLT : List (Nat × Nat × Nat) := XLX.map Prod.fst
def LCX : List ((Nat × Nat × Int32) × Nat) := [((14, 265, 1431655765), 762), ((14, 266, 858993459), 763), ((14, 267, 252645135), 764), ((11, 187, -1000000), 876), ((7, 203, 1103515245), 1101), ((12, 395, -1000000), 1692), ((12, 420, 1000000), 1729), ((12, 497, 1103515245), 1854)]
def LDC : List (Nat × Nat × Int32) := LCX.map Prod.fst
def LLX : List ((Nat × Nat × Int64) × Nat) := [((12, 180, 499850046565), 1460), ((12, 182, 113753910899827), 1461), ((12, 184, 31935733760681324), 1462), ((12, 186, 1819244133), 1463), ((12, 200, 7563636), 1502), ((12, 202, 7561593), 1503), ((12, 204, 474214787188), 1504), ((12, 206, 495589684578), 1505), ((12, 208, 1785686382), 1506), ((12, 210, 495807392116), 1507), ((12, 222, 1751474546), 1523), ((12, 224, 1936225646), 1524), ((12, 226, 418497262196), 1525), ((12, 228, 108187867505765), 1526), ((12, 230, 448377483876), 1531), ((12, 232, 32485536600843109), 1532)]
def LDL : List (Nat × Nat × Int64) := LLX.map Prod.fst
def LDS : List (Nat × Nat × Nat) := [(4, 118, 0), (4, 124, 1), (4, 126, 2), (4, 128, 3), (4, 130, 4), (4, 132, 5), (4, 134, 6), (4, 136, 7), (4, 138, 8), (4, 140, 9), (4, 142, 10), (4, 144, 11), (4, 146, 12), (4, 148, 13), (4, 150, 14), (4, 152, 15)]
def STX : List String := ["table", "guests", "quarrel", "love", "sit", "say", "night", "scrub", "join", "split", "hear", "shun", "apart", "beside", "heard", "silence"]
def STI : List Nat := [118, 124, 126, 128, 130, 132, 134, 136, 138, 140, 142, 144, 146, 148, 150, 152]
def STP : List Nat := [511, 564, 565, 566, 567, 568, 569, 570, 571, 572, 573, 574, 575, 576, 577, 578]
/-! ===== the abstract machine over the fixed layout: ints of a cell's places, one long ===== -/
abbrev Hp : Type := (Nat → Nat → Int32) × Int64
abbrev Lv : Type := List (Nat × Value)
abbrev Sc : Type := (Nat → Int32) × Nat
abbrev inb (i : Int32) (n : Nat) : Prop := ¬ (i < 0 ∨ n ≤ i.toNatClampNeg)
def kd (k : Nat) : Nat := KD.getD k 99
def ln (k : Nat) : Nat := LN.getD k 0
def rf (k j : Nat) : Nat := (RF.getD k []).getD j 0
def el (k j : Nat) : Nat := (EL.getD k []).getD j 0
def sl (c j : Nat) : Nat := (SL.getD c []).getD j 0
def nf (c : Nat) : Nat := NF.getD c 0
def ofs (k o : Nat) : Nat := if o < 1000 then k + o else o - 1000
def wr (h : Hp) (k j : Nat) (v : Int32) : Hp := (fun a b => if a = k ∧ b = j then v else h.1 a b, h.2)
def wL (h : Hp) (v : Int64) : Hp := (h.1, v)
def cpy (h : Hp) (a i b j n : Nat) : Hp := (fun k q => if k = b ∧ j ≤ q ∧ q < j + n then h.1 a (i + (q - j)) else h.1 k q, h.2)
def rm (x y : Int32) : Int32 := x - x / y * y
def sh (x y : Int32) : Int32 := x <<< (y &&& 31)
def sr (x y : Int32) : Int32 := x >>> (y &&& 31)
def us (x y : Int32) : Int32 := (x.toUInt32 >>> (y.toUInt32 &&& Int32.toUInt32 31)).toInt32
def mx (x y : Int32) : Int32 := if x < y then y else x
def mn (x y : Int32) : Int32 := if y < x then y else x
def lg (lv : Lv) (i : Nat) : Value := match lv with
  | [] => .retAddr 0
  | q :: r => if q.1 = i then q.2 else lg r i
def ls1 (lv : Lv) (i : Nat) (v : Value) : Lv := (i, v) :: lv.filter (fun q => !(q.1 == i) && !(q.1 + 1 == i && q.2.category == 2))
def ls2 (lv : Lv) (i : Nat) (v : Value) : Lv := (i, v) :: lv.filter (fun q => !(q.1 == i) && (!(q.1 == i + 1) && !(q.1 + 1 == i && q.2.category == 2)))
def sm (st : List Value) : Nat := match st with
  | [] => 0
  | v :: r => v.category + sm r
abbrev AR : Type := Option ((Lv × List Value × Hp) × Option Prop)
def ok0 (lv : Lv) (st : List Value) (h : Hp) : AR := some ((lv, st, h), none)
def ok1 (lv : Lv) (st : List Value) (h : Hp) (P : Prop) : AR := some ((lv, st, h), some P)
def i2 (f : Int32 → Int32 → Int32) (lv : Lv) (st : List Value) (h : Hp) : AR := match st with
  | .int y :: .int x :: r => ok0 lv (.int (f x y) :: r) h
  | _ => none
/-- one instruction -/
def ex1 (sc : Sc) (cs : List Int32) (qs : List Int64) (op : Instr) (lv : Lv) (st : List Value) (h : Hp) : AR := match op with
  | .ldc_w i => ok0 lv (.int (cs.getD i 0) :: st) h
  | .ldc2_w i => ok0 lv (.long (qs.getD i 0) :: st) h
  | .ldc i => ok0 lv (.ref (400 + i) :: st) h
  | .aconst_null => ok0 lv (.ref 0 :: st) h
  | .iload i => match lg lv i with
    | .int x => ok0 lv (.int x :: st) h
    | _ => none
  | .lload i => match lg lv i with
    | .long x => ok0 lv (.long x :: st) h
    | _ => none
  | .aload i => match lg lv i with
    | .ref x => ok0 lv (.ref x :: st) h
    | _ => none
  | .istore i => match st with
    | .int x :: r => ok0 (ls1 lv i (.int x)) r h
    | _ => none
  | .lstore i => match st with
    | .long x :: r => ok0 (ls2 lv i (.long x)) r h
    | _ => none
  | .astore i => match st with
    | .ref x :: r => ok0 (ls1 lv i (.ref x)) r h
    | _ => none
  | .iinc i c => match lg lv i with
    | .int x => ok0 (ls1 lv i (.int (x + cs.getD c.toNat 0))) st h
    | _ => none
  | .iadd => i2 (fun x y => x + y) lv st h
  | .isub => i2 (fun x y => x - y) lv st h
  | .imul => i2 (fun x y => x * y) lv st h
  | .iand => i2 (fun x y => x &&& y) lv st h
  | .ior => i2 (fun x y => x ||| y) lv st h
  | .ixor => i2 (fun x y => x ^^^ y) lv st h
  | .ishl => i2 sh lv st h
  | .ishr => i2 sr lv st h
  | .iushr => i2 us lv st h
  | .idiv => match st with
    | .int y :: .int x :: r => ok1 lv (.int (x / y) :: r) h (¬ y = 0)
    | _ => none
  | .irem => match st with
    | .int y :: .int x :: r => ok1 lv (.int (rm x y) :: r) h (¬ y = 0)
    | _ => none
  | .ineg => match st with
    | .int x :: r => ok0 lv (.int (-x) :: r) h
    | _ => none
  | .i2l => match st with
    | .int x :: r => ok0 lv (.long x.toInt64 :: r) h
    | _ => none
  | .i2b => match st with
    | .int x :: r => ok0 lv (.int x.toInt8.toInt32 :: r) h
    | _ => none
  | .lcmp => match st with
    | .long y :: .long x :: r => ok0 lv (.int (lg_cmp x y) :: r) h
    | _ => none
  | .lor => match st with
    | .long y :: .long x :: r => ok0 lv (.long (x ||| y) :: r) h
    | _ => none
  | .lshl => match st with
    | .int y :: .long x :: r => ok0 lv (.long (x <<< (y.toInt64 &&& 63)) :: r) h
    | _ => none
  | .dup => match st with
    | .int x :: r => ok0 lv (.int x :: .int x :: r) h
    | .ref x :: r => ok0 lv (.ref x :: .ref x :: r) h
    | _ => none
  | .dup2 => match st with
    | .int x :: .int y :: r => ok0 lv (.int x :: .int y :: .int x :: .int y :: r) h
    | .int x :: .ref y :: r => ok0 lv (.int x :: .ref y :: .int x :: .ref y :: r) h
    | _ => none
  | .pop => match st with
    | .int _ :: r => ok0 lv r h
    | .ref _ :: r => ok0 lv r h
    | _ => none
  | .getfield q => match st with
    | .ref k :: r => ok1 lv (.int (h.1 k (q % 100)) :: r) h (kd k = q / 100)
    | _ => none
  | .invokeinterface q o => match st with
    | .ref k :: r => ok1 lv (.ref (ofs k o) :: r) h (kd k = q / 100)
    | _ => none
  | .instanceof q => match st with
    | .ref k :: r => ok1 lv (.ref (h.1 k (q % 100)).toNatClampNeg :: r) h (kd k = q / 100)
    | _ => none
  | .getstatic q => match st with
    | .ref k :: r => ok1 lv (.long h.2 :: r) h (kd k = q / 100)
    | _ => none
  | .putfield q => match st with
    | .int v :: .ref k :: r => ok1 lv r (wr h k (q % 100) v) (kd k = q / 100)
    | _ => none
  | .checkcast q => match st with
    | .int v :: .ref k :: r => ok1 lv r (wr h k (q % 100) v) (kd k = q / 100 ∧ (v = 0 ∨ v = 1))
    | _ => none
  | .anewarray q => match st with
    | .ref v :: .ref k :: r => ok1 lv r (wr h k (q % 100) (Int32.ofNat v)) (kd k = q / 100 ∧ kd v = 1)
    | _ => none
  | .putstatic q => match st with
    | .long v :: .ref k :: r => ok1 lv r (wL h v) (kd k = q / 100)
    | _ => none
  | .iaload => match st with
    | .int i :: .ref a :: r => ok1 lv (.int (h.1 a i.toNatClampNeg) :: r) h (kd a = 20 ∧ inb i (ln a))
    | _ => none
  | .baload => match st with
    | .int i :: .ref a :: r => ok1 lv (.int (h.1 a i.toNatClampNeg) :: r) h ((kd a = 21 ∨ kd a = 22) ∧ inb i (ln a))
    | _ => none
  | .aaload => match st with
    | .int i :: .ref a :: r => ok1 lv (.ref (el a i.toNatClampNeg) :: r) h ((kd a = 23 ∨ kd a = 24 ∨ kd a = 25 ∨ kd a = 26) ∧ inb i (ln a))
    | _ => none
  | .iastore => match st with
    | .int v :: .int i :: .ref a :: r => ok1 lv r (wr h a i.toNatClampNeg v) (kd a = 20 ∧ inb i (ln a))
    | _ => none
  | .bastore => match st with
    | .int v :: .int i :: .ref a :: r => ok1 lv r (wr h a i.toNatClampNeg v.toInt8.toInt32) (kd a = 21 ∧ inb i (ln a))
    | _ => none
  | .castore => match st with
    | .int v :: .int i :: .ref a :: r => ok1 lv r (wr h a i.toNatClampNeg v) (kd a = 22 ∧ inb i (ln a) ∧ (v = 0 ∨ v = 1))
    | _ => none
  | .arraylength => match st with
    | .ref a :: r => ok1 lv (.int (Int32.ofNat (ln a)) :: r) h (20 ≤ kd a ∧ kd a < 27)
    | _ => none
  | .faload => match st with
    | .int i :: .ref a :: r => ok1 lv (.int (sc.1 i.toNatClampNeg) :: r) h (a = 300 ∧ inb i sc.2)
    | _ => none
  | .fneg => match st with
    | .ref a :: r => ok1 lv (.int (Int32.ofNat sc.2) :: r) h (a = 300)
    | _ => none
  | .invokestatic 1 => match st with
    | .int y :: .int x :: r => ok1 lv (.int (mx x y) :: r) h (sm r ≤ 8)
    | _ => none
  | .invokestatic 2 => match st with
    | .int y :: .int x :: r => ok1 lv (.int (mn x y) :: r) h (sm r ≤ 8)
    | _ => none
  | .invokestatic 3 => match st with
    | .int n :: .int j :: .ref b :: .int i :: .ref a :: r => ok1 lv r (cpy h a i.toNatClampNeg b j.toNatClampNeg n.toNatClampNeg) (sm r ≤ 8 ∧ (kd a = 20 ∧ kd b = 20) ∧ (¬ i < 0 ∧ ¬ j < 0 ∧ ¬ n < 0) ∧ i.toNatClampNeg + n.toNatClampNeg ≤ ln a ∧ j.toNatClampNeg + n.toNatClampNeg ≤ ln b)
    | _ => none
  | _ => none
def ad1 (p : Option Prop) (L : List Prop) : List Prop := match p with
  | none => L
  | some P => P :: L
/-- a straight stretch -/
def exl (sc : Sc) (cs : List Int32) (qs : List Int64) : List Instr → Lv → List Value → Hp → Option ((Lv × List Value × Hp) × List Prop)
  | [], lv, st, h => some ((lv, st, h), [])
  | op :: ops, lv, st, h => match ex1 sc cs qs op lv st h with
    | none => none
    | some (r, p) => match exl sc cs qs ops r.1 r.2.1 r.2.2 with
      | none => none
      | some (r2, L) => some (r2, ad1 p L)
def Al : List Prop → Prop
  | [] => True
  | [p] => p
  | p :: q :: r => p ∧ Al (q :: r)
/-! ===== which instruction of the file is which of the machine ===== -/
def inx {α : Type} (d : DecidableEq α) (l : List α) (k : Nat) (v : α) : Bool := match l[k]? with
  | some w => decide (w = v)
  | none => false
def isi (a b : Instr) : Bool := decide (a = b)
def cvi (on nL : Nat) (cs : List Int32) (qs : List Int64) (i : Instr) (n : Nat) (op : Instr) : Bool := match i with
  | .iconst v => match op with
    | .ldc_w k => decide (n = 1) && decide (cs[k]? = some (Int32.ofInt v))
    | _ => false
  | .bipush v => match op with
    | .ldc_w k => decide (n = 2) && decide (cs[k]? = some (Int8.ofInt v).toInt32)
    | _ => false
  | .sipush v => match op with
    | .ldc_w k => decide (n = 3) && decide (cs[k]? = some (Int16.ofInt v).toInt32)
    | _ => false
  | .lconst v => match op with
    | .ldc2_w k => decide (n = 1) && decide (qs[k]? = some (Int64.ofNat (v : Nat)))
    | _ => false
  | .ldc x => match op with
    | .ldc_w k => decide (n = 2) && (LDC.any fun q => decide (q.1 = on) && decide (q.2.1 = x) && decide (cs[k]? = some q.2.2))
    | .ldc k => decide (n = 2) && (LDS.any fun q => decide (q.1 = on) && decide (q.2.1 = x) && decide (q.2.2 = k))
    | _ => false
  | .ldc_w x => match op with
    | .ldc_w k => decide (n = 3) && (LDC.any fun q => decide (q.1 = on) && decide (q.2.1 = x) && decide (cs[k]? = some q.2.2))
    | _ => false
  | .ldc2_w x => match op with
    | .ldc2_w k => decide (n = 3) && (LDL.any fun q => decide (q.1 = on) && decide (q.2.1 = x) && decide (qs[k]? = some q.2.2))
    | _ => false
  | .iload_n k => decide (n = 1) && decide (op = .iload k)
  | .iload k => decide (n = 2) && decide (op = .iload k)
  | .lload_n k => decide (n = 1) && decide (op = .lload k)
  | .lload k => decide (n = 2) && decide (op = .lload k)
  | .aload_n k => decide (n = 1) && decide (op = .aload k)
  | .aload k => decide (n = 2) && decide (op = .aload k)
  | .istore_n k => decide (n = 1) && decide (op = .istore k) && decide ((k : Nat) < nL)
  | .istore k => decide (n = 2) && decide (op = .istore k) && decide (k < nL)
  | .lstore_n k => decide (n = 1) && decide (op = .lstore k) && decide ((k : Nat) + 1 < nL)
  | .lstore k => decide (n = 2) && decide (op = .lstore k) && decide (k + 1 < nL)
  | .astore_n k => decide (n = 1) && decide (op = .astore k) && decide ((k : Nat) < nL)
  | .astore k => decide (n = 2) && decide (op = .astore k) && decide (k < nL)
  | .iinc k v => match op with
    | .iinc k2 c => decide (n = 3) && decide (k = k2) && decide (cs[c.toNat]? = some (Int32.ofInt v))
    | _ => false
  | .getfield x => match op with
    | .getfield q => decide (n = 3) && (FLT.any fun r => decide (r.1 = on) && decide (r.2.1 = x) && decide (100 * r.2.2.1 + r.2.2.2 = q) && decide (sl r.2.2.1 r.2.2.2 = 0))
    | .invokeinterface q o => decide (n = 3) && (FLT.any fun r => decide (r.1 = on) && decide (r.2.1 = x) && decide (100 * r.2.2.1 + r.2.2.2 = q) && decide (sl r.2.2.1 r.2.2.2 = 1)) && (OFT.any fun r => decide (r.1 = q) && decide (r.2 = o))
    | .instanceof q => decide (n = 3) && (FLT.any fun r => decide (r.1 = on) && decide (r.2.1 = x) && decide (100 * r.2.2.1 + r.2.2.2 = q) && decide (sl r.2.2.1 r.2.2.2 = 2))
    | .getstatic q => decide (n = 3) && (FLT.any fun r => decide (r.1 = on) && decide (r.2.1 = x) && decide (100 * r.2.2.1 + r.2.2.2 = q) && decide (sl r.2.2.1 r.2.2.2 = 3))
    | _ => false
  | .putfield x => match op with
    | .putfield q => decide (n = 3) && (FLT.any fun r => decide (r.1 = on) && decide (r.2.1 = x) && decide (100 * r.2.2.1 + r.2.2.2 = q) && decide (sl r.2.2.1 r.2.2.2 = 0) && decide ((TN r.2.2.1 r.2.2.2).2.2.1 = "I") && decide ((TN r.2.2.1 r.2.2.2).2.2.2 = false))
    | .checkcast q => decide (n = 3) && (FLT.any fun r => decide (r.1 = on) && decide (r.2.1 = x) && decide (100 * r.2.2.1 + r.2.2.2 = q) && decide (sl r.2.2.1 r.2.2.2 = 0) && decide ((TN r.2.2.1 r.2.2.2).2.2.1 = "Z") && decide ((TN r.2.2.1 r.2.2.2).2.2.2 = false))
    | .anewarray q => decide (n = 3) && (FLT.any fun r => decide (r.1 = on) && decide (r.2.1 = x) && decide (100 * r.2.2.1 + r.2.2.2 = q) && decide (sl r.2.2.1 r.2.2.2 = 2) && decide ((TN r.2.2.1 r.2.2.2).2.2.2 = false))
    | .putstatic q => decide (n = 3) && (FLT.any fun r => decide (r.1 = on) && decide (r.2.1 = x) && decide (100 * r.2.2.1 + r.2.2.2 = q) && decide (sl r.2.2.1 r.2.2.2 = 3) && decide ((TN r.2.2.1 r.2.2.2).2.2.2 = false))
    | _ => false
  | .iaload => decide (n = 1) && (decide (op = .iaload) || decide (op = .faload))
  | .arraylength => decide (n = 1) && (decide (op = .arraylength) || decide (op = .fneg))
  | .bastore => decide (n = 1) && (decide (op = .bastore) || decide (op = .castore))
  | .invokestatic x => match op with
    | .invokestatic q => decide (n = 3) && (XLT.any fun r => decide (r.1 = on) && decide (r.2.1 = x) && decide (r.2.2 = q))
    | _ => false
  | .aconst_null => decide (n = 1) && decide (op = .aconst_null)
  | .iadd => decide (n = 1) && decide (op = .iadd)
  | .isub => decide (n = 1) && decide (op = .isub)
  | .imul => decide (n = 1) && decide (op = .imul)
  | .iand => decide (n = 1) && decide (op = .iand)
  | .ior => decide (n = 1) && decide (op = .ior)
  | .ixor => decide (n = 1) && decide (op = .ixor)
  | .ishl => decide (n = 1) && decide (op = .ishl)
  | .ishr => decide (n = 1) && decide (op = .ishr)
  | .iushr => decide (n = 1) && decide (op = .iushr)
  | .idiv => decide (n = 1) && decide (op = .idiv)
  | .irem => decide (n = 1) && decide (op = .irem)
  | .ineg => decide (n = 1) && decide (op = .ineg)
  | .i2l => decide (n = 1) && decide (op = .i2l)
  | .i2b => decide (n = 1) && decide (op = .i2b)
  | .lcmp => decide (n = 1) && decide (op = .lcmp)
  | .lor => decide (n = 1) && decide (op = .lor)
  | .lshl => decide (n = 1) && decide (op = .lshl)
  | .dup => decide (n = 1) && decide (op = .dup)
  | .dup2 => decide (n = 1) && decide (op = .dup2)
  | .pop => decide (n = 1) && decide (op = .pop)
  | .baload => decide (n = 1) && decide (op = .baload)
  | .aaload => decide (n = 1) && decide (op = .aaload)
  | .iastore => decide (n = 1) && decide (op = .iastore)
  | _ => false
/-- the bytes from pc on are these instructions, up to pc'; a goto is followed -/
def blk (on nL : Nat) (cc : ByteArray) (cs : List Int32) (qs : List Int64) : Nat → Nat → List Instr → Nat → Bool
  | 0, _, _, _ => false
  | f + 1, pc, ops, pc' => match ops with
    | [] => decide (pc = pc') || (match decode cc pc with
        | .ok (.goto o, n) => decide (n = 3) && decide ((pc : Int) + o = (pc' : Int))
        | _ => false)
    | op :: r => match decode cc pc with
      | .ok (.goto o, n) => decide (n = 3) && decide (0 ≤ (pc : Int) + o) && blk on nL cc cs qs f ((pc : Int) + o).toNat ops pc'
      | .ok (i, n) => cvi on nL cs qs i n op && blk on nL cc cs qs f (pc + n) r pc'
      | .error _ => false
