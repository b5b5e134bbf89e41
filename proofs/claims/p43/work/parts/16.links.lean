/-! the links by program -/
def nhMl_0 : List (Nat × Nat) := [(49, 110), (75, 79), (83, 80), (55, 111), (67, 112), (59, 113), (71, 114)]
set_option maxRecDepth 100000 in
theorem nhLk_0 : nhMl_0.map (fun q => (nhMt[q.2]?).map (fun y => Cond.methodLink "NightHouses$Fencer" q.1 y.1)) = ([1166, 1170, 1171, 1173, 1177, 1180, 1184] : List Nat).map (fun i => lw_tbl[i]?) := rfl
def nhMl_1 : List (Nat × Nat) := [(26, 58)]
set_option maxRecDepth 100000 in
theorem nhLk_1 : nhMl_1.map (fun q => (nhMt[q.2]?).map (fun y => Cond.methodLink "NightHouses$Formula" q.1 y.1)) = ([942] : List Nat).map (fun i => lw_tbl[i]?) := rfl
def nhMl_2 : List (Nat × Nat) := [(26, 78), (30, 79)]
set_option maxRecDepth 100000 in
theorem nhLk_2 : nhMl_2.map (fun q => (nhMt[q.2]?).map (fun y => Cond.methodLink "NightHouses$History" q.1 y.1)) = ([1029, 1033] : List Nat).map (fun i => lw_tbl[i]?) := rfl
def nhMl_3 : List (Nat × Nat) := [(31, 1), (35, 2), (67, 4), (71, 53), (80, 54)]
set_option maxRecDepth 100000 in
theorem nhLk_3 : nhMl_3.map (fun q => (nhMt[q.2]?).map (fun y => Cond.methodLink "NightHouses$Land" q.1 y.1)) = ([551, 555, 563, 968, 972] : List Nat).map (fun i => lw_tbl[i]?) := rfl
def nhMl_4 : List (Nat × Nat) := [(32, 6)]
set_option maxRecDepth 100000 in
theorem nhLk_4 : nhMl_4.map (fun q => (nhMt[q.2]?).map (fun y => Cond.methodLink "NightHouses$Night" q.1 y.1)) = ([574] : List Nat).map (fun i => lw_tbl[i]?) := rfl
def nhMl_5 : List (Nat × Nat) := [(45, 79), (49, 104), (61, 63), (70, 105), (81, 80), (74, 106), (90, 69)]
set_option maxRecDepth 100000 in
theorem nhLk_5 : nhMl_5.map (fun q => (nhMt[q.2]?).map (fun y => Cond.methodLink "NightHouses$Planner" q.1 y.1)) = ([1136, 1137, 1141, 1143, 1147, 1148, 1152] : List Nat).map (fun i => lw_tbl[i]?) := rfl
def nhMl_6 : List (Nat × Nat) := [(33, 0), (60, 13), (67, 22), (102, 23), (99, 24), (109, 25), (113, 14), (71, 26), (122, 27), (125, 1), (75, 28), (144, 29), (135, 4), (138, 30), (81, 31), (84, 32), (87, 33), (158, 34), (170, 35), (183, 36), (186, 37), (179, 38), (189, 39), (196, 40), (199, 41), (205, 42), (202, 43), (192, 44), (90, 45), (93, 46), (96, 47)]
set_option maxRecDepth 100000 in
theorem nhLk_6 : nhMl_6.map (fun q => (nhMt[q.2]?).map (fun y => Cond.methodLink "NightHouses$Reader" q.1 y.1)) = ([653, 654, 799, 803, 807, 811, 815, 816, 820, 824, 825, 829, 833, 834, 838, 842, 846, 850, 854, 858, 862, 866, 870, 874, 878, 882, 885, 888, 891, 895, 899] : List Nat).map (fun i => lw_tbl[i]?) := rfl
def nhMl_7 : List (Nat × Nat) := [(69, 149), (57, 5), (63, 80), (78, 150), (82, 151), (86, 152), (90, 6)]
set_option maxRecDepth 100000 in
theorem nhLk_7 : nhMl_7.map (fun q => (nhMt[q.2]?).map (fun y => Cond.methodLink "NightHouses$Sightings" q.1 y.1)) = ([1330, 1334, 1335, 1337, 1341, 1345, 1374] : List Nat).map (fun i => lw_tbl[i]?) := rfl
def nhMl_8 : List (Nat × Nat) := [(76, 53), (80, 54), (83, 55), (92, 56), (95, 57), (68, 63), (15, 69), (27, 81), (38, 82), (35, 52), (48, 83), (55, 84)]
set_option maxRecDepth 100000 in
theorem nhLk_8 : nhMl_8.map (fun q => (nhMt[q.2]?).map (fun y => Cond.methodLink "NightHouses$Steps" q.1 y.1)) = ([922, 926, 930, 934, 938, 998, 1040, 1041, 1044, 1048, 1049, 1052] : List Nat).map (fun i => lw_tbl[i]?) := rfl
def nhMl_9 : List (Nat × Nat) := [(26, 14), (29, 15), (39, 16), (43, 17), (46, 18), (50, 19), (53, 20)]
set_option maxRecDepth 100000 in
theorem nhLk_9 : nhMl_9.map (fun q => (nhMt[q.2]?).map (fun y => Cond.methodLink "NightHouses$Tokens" q.1 y.1)) = ([661, 665, 669, 672, 677, 730, 733] : List Nat).map (fun i => lw_tbl[i]?) := rfl
def nhMl_10 : List (Nat × Nat) := [(21, 6), (45, 121), (31, 129), (35, 130), (39, 82)]
set_option maxRecDepth 100000 in
theorem nhLk_10 : nhMl_10.map (fun q => (nhMt[q.2]?).map (fun y => Cond.methodLink "NightHouses$Walks" q.1 y.1)) = ([1210, 1215, 1247, 1251, 1255] : List Nat).map (fun i => lw_tbl[i]?) := rfl
def nhMl_11 : List (Nat × Nat) := [(96, 0), (99, 3), (102, 5), (106, 7), (109, 9), (113, 12), (116, 21), (120, 48), (130, 51), (146, 52), (152, 59), (156, 61), (159, 62), (165, 63), (179, 65), (194, 66), (221, 69), (225, 72), (229, 75), (232, 77), (236, 80), (240, 84), (243, 82), (247, 88), (252, 91), (256, 93), (259, 79), (262, 97), (299, 98), (266, 101), (270, 103), (283, 108), (287, 109), (302, 116), (306, 119), (309, 120), (313, 122), (322, 128), (326, 130), (332, 136), (336, 137), (342, 139), (345, 140), (348, 143), (352, 145), (356, 148), (360, 154), (363, 156), (366, 159)]
set_option maxRecDepth 100000 in
theorem nhLk_11 : nhMl_11.map (fun q => (nhMt[q.2]?).map (fun y => Cond.methodLink "NightHouses" q.1 y.1)) = ([547, 559, 567, 577, 637, 649, 795, 903, 915, 919, 948, 956, 960, 964, 977, 983, 995, 1007, 1018, 1025, 1037, 1055, 1060, 1069, 1082, 1090, 1098, 1107, 1111, 1123, 1131, 1158, 1162, 1192, 1206, 1211, 1218, 1243, 1256, 1277, 1281, 1290, 1294, 1305, 1313, 1326, 1353, 1360, 1370] : List Nat).map (fun i => lw_tbl[i]?) := rfl
def nhMl_12 : List (Nat × Nat) := [(140, 160), (143, 161), (350, 162), (340, 163), (365, 164), (232, 166), (196, 167), (203, 168), (211, 169), (215, 170), (221, 171), (228, 172), (250, 173), (271, 174), (264, 175), (253, 176), (235, 177), (224, 178), (267, 179), (274, 180), (278, 181), (261, 182), (294, 183), (282, 184), (285, 185), (300, 186), (309, 187), (312, 188), (291, 189), (318, 190), (321, 191), (315, 192), (324, 193), (327, 194), (288, 195), (257, 196), (404, 199), (343, 200), (389, 201), (371, 202), (333, 203), (336, 204), (392, 205), (407, 207), (347, 208), (377, 209), (368, 210), (383, 212), (395, 214), (410, 216), (374, 219), (413, 222), (416, 224), (419, 225), (398, 226), (386, 227), (401, 228), (422, 232), (425, 233), (428, 236), (434, 240), (437, 241), (431, 242), (440, 243), (443, 247), (447, 249), (450, 252), (453, 253), (456, 257), (459, 261), (466, 266), (469, 267), (472, 268), (475, 270), (478, 271), (485, 276), (488, 277), (491, 275), (494, 280)]
set_option maxRecDepth 100000 in
theorem nhLk_12 : nhMl_12.map (fun q => (nhMt[q.2]?).map (fun y => Cond.methodLink "NightHousesModel" q.1 y.1)) = ([1382, 1386, 1390, 1394, 1398, 1599, 1603, 1607, 1610, 1632, 1635, 1638, 1642, 1646, 1650, 1654, 1657, 1661, 1665, 1669, 1673, 1677, 1681, 1685, 1689, 1693, 1697, 1701, 1705, 1709, 1713, 1717, 1721, 1725, 1729, 1733, 1745, 1749, 1752, 1756, 1760, 1764, 1767, 1775, 1779, 1783, 1787, 1794, 1802, 1809, 1821, 1833, 1841, 1845, 1849, 1853, 1857, 1873, 1877, 1889, 1905, 1908, 1912, 1916, 1932, 1940, 1952, 1956, 1972, 1988, 2008, 2012, 2016, 2024, 2027, 2047, 2051, 2059, 2064] : List Nat).map (fun i => lw_tbl[i]?) := rfl
def nhMl_13 : List (Nat × Nat) := [(311, 155), (308, 157)]
set_option maxRecDepth 100000 in
theorem nhLk_13 : nhMl_13.map (fun q => (nhMt[q.2]?).map (fun y => Cond.methodLink "java/lang/Long" q.1 y.1)) = ([1356, 1363] : List Nat).map (fun i => lw_tbl[i]?) := rfl
def nhMl_14 : List (Nat × Nat) := []
set_option maxRecDepth 100000 in
theorem nhLk_14 : nhMl_14.map (fun q => (nhMt[q.2]?).map (fun y => Cond.methodLink "java/lang/Integer" q.1 y.1)) = ([] : List Nat).map (fun i => lw_tbl[i]?) := rfl
def nhMl_15 : List (Nat × Nat) := []
set_option maxRecDepth 100000 in
theorem nhLk_15 : nhMl_15.map (fun q => (nhMt[q.2]?).map (fun y => Cond.methodLink "java/lang/Math" q.1 y.1)) = ([] : List Nat).map (fun i => lw_tbl[i]?) := rfl
def nhMl_16 : List (Nat × Nat) := []
set_option maxRecDepth 100000 in
theorem nhLk_16 : nhMl_16.map (fun q => (nhMt[q.2]?).map (fun y => Cond.methodLink "java/util/Arrays" q.1 y.1)) = ([] : List Nat).map (fun i => lw_tbl[i]?) := rfl
def nhMl_17 : List (Nat × Nat) := []
set_option maxRecDepth 100000 in
theorem nhLk_17 : nhMl_17.map (fun q => (nhMt[q.2]?).map (fun y => Cond.methodLink "java/lang/String" q.1 y.1)) = ([] : List Nat).map (fun i => lw_tbl[i]?) := rfl
def nhMl_18 : List (Nat × Nat) := []
set_option maxRecDepth 100000 in
theorem nhLk_18 : nhMl_18.map (fun q => (nhMt[q.2]?).map (fun y => Cond.methodLink "java/lang/StringLatin1" q.1 y.1)) = ([] : List Nat).map (fun i => lw_tbl[i]?) := rfl
def nhMl_19 : List (Nat × Nat) := []
set_option maxRecDepth 100000 in
theorem nhLk_19 : nhMl_19.map (fun q => (nhMt[q.2]?).map (fun y => Cond.methodLink "java/lang/StringUTF16" q.1 y.1)) = ([] : List Nat).map (fun i => lw_tbl[i]?) := rfl
def nhMl_20 : List (Nat × Nat) := [(13, 8), (18, 10), (23, 11), (28, 49), (32, 50), (37, 60), (211, 64), (173, 67), (136, 68), (161, 70), (140, 71), (149, 73), (169, 74), (41, 76), (46, 85), (50, 86), (54, 87), (58, 89), (62, 90), (67, 92), (203, 94), (207, 95), (71, 96), (76, 99), (80, 100), (84, 102), (88, 107), (92, 115), (132, 117), (108, 118), (120, 123), (112, 124), (144, 125), (153, 126), (96, 127), (165, 131), (104, 132), (124, 133), (116, 134), (100, 135), (128, 138), (157, 141), (177, 142), (182, 144), (187, 146), (191, 147), (195, 153), (199, 158), (27, 165), (31, 197), (36, 198), (40, 206), (139, 211), (164, 213), (143, 215), (152, 217), (119, 218), (160, 220), (131, 221), (45, 223), (49, 229), (53, 230), (57, 231), (61, 234), (66, 235), (70, 237), (176, 238), (75, 239), (79, 244), (83, 245), (148, 246), (156, 248), (115, 250), (111, 251), (123, 254), (87, 255), (91, 256), (95, 258), (135, 259), (99, 260), (168, 262), (107, 263), (127, 264), (103, 265), (172, 269), (181, 272), (186, 273), (190, 274), (194, 275), (198, 278), (202, 279), (206, 281), (210, 282), (214, 283), (17, 284), (22, 285)]
set_option maxRecDepth 100000 in
theorem nhLk_20 : nhMl_20.map (fun q => (nhMt[q.2]?).map (fun y => Cond.methodLink "NightHousesLaw" q.1 y.1)) = ([633, 641, 645, 907, 911, 952, 973, 987, 991, 999, 1003, 1010, 1014, 1021, 1056, 1061, 1065, 1073, 1078, 1086, 1094, 1099, 1103, 1115, 1119, 1127, 1154, 1188, 1198, 1202, 1222, 1226, 1231, 1235, 1239, 1257, 1261, 1265, 1269, 1273, 1286, 1297, 1301, 1309, 1317, 1322, 1349, 1366, 1595, 1737, 1741, 1771, 1790, 1798, 1805, 1813, 1817, 1825, 1829, 1837, 1861, 1865, 1869, 1881, 1885, 1893, 1897, 1901, 1920, 1924, 1928, 1936, 1944, 1948, 1960, 1964, 1968, 1976, 1980, 1984, 1992, 1996, 2000, 2004, 2020, 2030, 2034, 2038, 2043, 2055, 2060, 2068, 2072, 2076, 2080, 2084] : List Nat).map (fun i => lw_tbl[i]?) := rfl
def nhLn : List (List (Nat × Nat)) := [nhMl_0, nhMl_1, nhMl_2, nhMl_3, nhMl_4, nhMl_5, nhMl_6, nhMl_7, nhMl_8, nhMl_9, nhMl_10, nhMl_11, nhMl_12, nhMl_13, nhMl_14, nhMl_15, nhMl_16, nhMl_17, nhMl_18, nhMl_19, nhMl_20]
theorem nhLk0 {L : List (Nat × Nat)} {C : String} {ps : List Nat} (h : L.map (fun q => (nhMt[q.2]?).map (fun y => Cond.methodLink C q.1 y.1)) = ps.map (fun i => lw_tbl[i]?)) {q : Nat × Nat} (hq : q ∈ L) {y : nhMth} (hy : nhMt[q.2]? = some y) : Cond.methodLink C q.1 y.1 ∈ nhTb := by
  have h1 : (nhMt[q.2]?).map (fun y => Cond.methodLink C q.1 y.1) ∈ L.map (fun q => (nhMt[q.2]?).map (fun y => Cond.methodLink C q.1 y.1)) := List.mem_map.mpr ⟨q, hq, rfl⟩
  rw [h, hy] at h1
  obtain ⟨i, -, hi⟩ := List.mem_map.mp h1
  exact nhTb_mem (List.mem_of_getElem? hi) rfl
theorem nh_lk_ok {o : Nat} {C : String} (hC : nhOw[o]? = some C) {q : Nat × Nat} (hq : q ∈ nhLn.getD o []) {y : nhMth} (hy : nhMt[q.2]? = some y) : Cond.methodLink C q.1 y.1 ∈ nhTb := by
  match o, hC, hq with
  | 0, hC, hq => cases hC; exact nhLk0 nhLk_0 hq hy
  | 1, hC, hq => cases hC; exact nhLk0 nhLk_1 hq hy
  | 2, hC, hq => cases hC; exact nhLk0 nhLk_2 hq hy
  | 3, hC, hq => cases hC; exact nhLk0 nhLk_3 hq hy
  | 4, hC, hq => cases hC; exact nhLk0 nhLk_4 hq hy
  | 5, hC, hq => cases hC; exact nhLk0 nhLk_5 hq hy
  | 6, hC, hq => cases hC; exact nhLk0 nhLk_6 hq hy
  | 7, hC, hq => cases hC; exact nhLk0 nhLk_7 hq hy
  | 8, hC, hq => cases hC; exact nhLk0 nhLk_8 hq hy
  | 9, hC, hq => cases hC; exact nhLk0 nhLk_9 hq hy
  | 10, hC, hq => cases hC; exact nhLk0 nhLk_10 hq hy
  | 11, hC, hq => cases hC; exact nhLk0 nhLk_11 hq hy
  | 12, hC, hq => cases hC; exact nhLk0 nhLk_12 hq hy
  | 13, hC, hq => cases hC; exact nhLk0 nhLk_13 hq hy
  | 14, hC, hq => cases hC; exact nhLk0 nhLk_14 hq hy
  | 15, hC, hq => cases hC; exact nhLk0 nhLk_15 hq hy
  | 16, hC, hq => cases hC; exact nhLk0 nhLk_16 hq hy
  | 17, hC, hq => cases hC; exact nhLk0 nhLk_17 hq hy
  | 18, hC, hq => cases hC; exact nhLk0 nhLk_18 hq hy
  | 19, hC, hq => cases hC; exact nhLk0 nhLk_19 hq hy
  | 20, hC, hq => cases hC; exact nhLk0 nhLk_20 hq hy
  | n + 21, hC, _ => simp at hC
