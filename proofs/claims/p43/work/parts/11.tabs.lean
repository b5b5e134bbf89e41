/-! tables by program: which field, which constant a number of a class's pool means, and its place among the words -/
abbrev nhOw : List String := ["NightHouses$Fencer", "NightHouses$Formula", "NightHouses$History", "NightHouses$Land", "NightHouses$Night", "NightHouses$Planner", "NightHouses$Reader", "NightHouses$Sightings", "NightHouses$Steps", "NightHouses$Tokens", "NightHouses$Walks", "NightHouses", "NightHousesModel", "java/lang/Long", "java/lang/Integer", "java/lang/Math", "java/util/Arrays", "java/lang/String", "java/lang/StringLatin1", "java/lang/StringUTF16", "NightHousesLaw"]
def nhTb : List Cond := lw_tbl.filter goodWord
theorem nhTb_mem {w : Cond} (h : w ∈ lw_tbl) (g : goodWord w = true) : w ∈ nhTb := List.mem_filter.mpr ⟨h, g⟩
theorem nhGoodIn0 : GoodIn nhTb nhTb := fun w h => ⟨h, good_of_word (List.mem_filter.mp h).2⟩
/-- the word at a place, if it is good -/
def nh_wd (i : Nat) (w : Cond) : Bool := decide (lw_tbl[i]? = some w) && goodWord w
theorem nh_wd_ok {i : Nat} {w : Cond} (h : nh_wd i w = true) : w ∈ nhTb := by
  simp only [nh_wd, Bool.and_eq_true, decide_eq_true_eq] at h
  exact nhTb_mem (List.mem_of_getElem? h.1) h.2
def nhFl : List (List (Nat × Nat × Nat × Nat)) := [[(63, 3, 7, 201), (89, 3, 8, 213), (45, 4, 0, 350), (79, 4, 3, 362), (12, 0, 0, 476), (18, 0, 1, 477), (22, 0, 2, 478), (26, 0, 3, 479), (29, 0, 4, 480), (33, 0, 5, 481), (36, 0, 6, 482), (39, 0, 7, 483), (42, 0, 8, 485)], [(9, 1, 0, 162), (13, 1, 1, 163), (16, 1, 2, 164), (19, 1, 3, 165), (23, 1, 4, 166)], [(11, 2, 0, 402), (15, 2, 1, 403), (19, 2, 2, 404), (22, 2, 3, 406)], [(9, 3, 0, 182), (18, 3, 1, 188), (22, 3, 2, 192), (25, 3, 3, 193), (28, 3, 4, 194), (58, 3, 5, 195), (61, 3, 6, 198), (64, 3, 7, 202), (38, 3, 8, 207), (42, 3, 9, 214), (46, 3, 10, 218), (49, 3, 11, 221), (52, 3, 12, 225), (55, 3, 13, 229)], [(21, 3, 0, 183), (38, 3, 9, 215), (43, 3, 10, 219), (54, 3, 13, 230), (9, 4, 0, 348), (15, 4, 1, 355), (18, 4, 2, 358), (42, 4, 3, 360), (47, 4, 4, 364), (48, 4, 5, 367), (51, 4, 6, 370), (57, 4, 7, 373)], [(56, 3, 0, 184), (87, 3, 8, 209), (78, 3, 11, 222), (53, 4, 0, 351), (9, 5, 0, 445), (15, 5, 1, 447), (20, 5, 2, 448), (25, 5, 3, 449), (29, 5, 4, 450), (39, 5, 5, 451), (42, 5, 6, 452)], [(208, 1, 4, 168), (154, 3, 0, 187), (173, 3, 1, 191), (129, 3, 5, 197), (132, 3, 6, 200), (78, 3, 8, 208), (147, 3, 9, 217), (141, 3, 10, 220), (161, 3, 11, 224), (164, 3, 12, 228), (167, 3, 13, 231), (64, 9, 3, 276), (106, 9, 4, 278), (116, 9, 5, 281), (151, 9, 6, 283), (12, 6, 0, 299), (18, 6, 1, 300), (29, 6, 2, 301), (38, 6, 3, 302), (42, 6, 4, 303), (45, 6, 5, 304), (48, 6, 6, 305), (51, 6, 7, 306), (54, 6, 8, 307), (57, 6, 9, 308), (119, 6, 10, 309), (22, 6, 11, 310), (26, 6, 12, 312)], [(54, 3, 7, 203), (49, 3, 8, 211), (72, 3, 9, 216), (61, 4, 0, 352), (11, 7, 0, 514), (15, 7, 1, 515), (18, 7, 2, 516), (22, 7, 3, 517), (25, 7, 4, 518), (28, 7, 5, 519), (31, 7, 6, 520), (37, 7, 7, 521), (41, 7, 8, 522), (45, 7, 9, 523)], [(62, 3, 0, 185), (72, 3, 1, 189), (9, 3, 8, 206), (45, 3, 12, 226), (21, 4, 0, 349), (59, 4, 1, 356), (31, 4, 3, 361), (65, 4, 4, 365), (52, 4, 5, 368), (89, 4, 6, 371), (42, 4, 7, 374)], [(7, 9, 0, 273), (19, 9, 1, 274), (23, 9, 2, 275), (36, 9, 3, 277), (33, 9, 4, 279), (69, 9, 5, 280), (63, 9, 6, 282)], [(57, 3, 7, 204), (49, 3, 8, 212), (52, 4, 0, 353), (9, 10, 0, 423), (15, 10, 1, 424), (18, 10, 2, 425), (27, 10, 3, 426)], [(210, 1, 4, 167), (137, 3, 0, 186), (206, 3, 1, 190), (169, 3, 5, 196), (172, 3, 6, 199), (297, 3, 7, 205), (121, 3, 8, 210), (215, 3, 11, 223), (218, 3, 12, 227), (124, 6, 11, 311), (127, 6, 12, 313), (134, 4, 0, 354), (140, 4, 1, 357), (143, 4, 2, 359), (175, 4, 3, 363), (162, 4, 4, 366), (185, 4, 5, 369), (188, 4, 6, 372), (191, 4, 7, 375), (197, 2, 2, 405), (200, 2, 3, 407), (329, 10, 3, 427), (274, 5, 0, 446), (291, 0, 7, 484), (294, 0, 8, 486), (203, 7, 9, 524), (9, 11, 0, 581), (13, 11, 1, 582), (20, 11, 2, 583), (24, 11, 3, 584), (30, 11, 4, 585), (37, 11, 5, 586), (41, 11, 6, 587), (47, 11, 7, 588), (51, 11, 8, 589), (55, 11, 9, 590), (61, 11, 10, 591), (68, 11, 11, 592), (75, 11, 12, 593), (82, 11, 13, 594), (86, 11, 14, 595), (89, 11, 15, 596), (93, 11, 16, 597)], [(7, 12, 0, 1402), (13, 12, 1, 1403), (244, 12, 2, 1404), (146, 12, 3, 1405), (149, 12, 4, 1406), (16, 12, 5, 1407), (193, 12, 6, 1408), (190, 12, 7, 1409), (200, 12, 8, 1410), (218, 12, 9, 1411), (207, 12, 10, 1412), (20, 12, 11, 1413), (24, 12, 12, 1414), (27, 12, 13, 1415), (30, 12, 14, 1416), (33, 12, 15, 1417), (36, 12, 16, 1418), (39, 12, 17, 1419), (42, 12, 18, 1420), (45, 12, 19, 1421), (48, 12, 20, 1422), (51, 12, 21, 1423), (54, 12, 22, 1424), (57, 12, 23, 1425), (60, 12, 24, 1426), (63, 12, 25, 1427), (66, 12, 26, 1428), (70, 12, 27, 1429), (73, 12, 28, 1430), (76, 12, 29, 1431), (79, 12, 30, 1432), (82, 12, 31, 1433), (247, 12, 32, 1434), (238, 12, 33, 1435), (241, 12, 34, 1436), (306, 12, 35, 1437), (303, 12, 36, 1438), (297, 12, 37, 1439), (330, 12, 38, 1440), (85, 12, 39, 1441), (88, 12, 40, 1442), (91, 12, 41, 1443), (380, 12, 42, 1444), (94, 12, 43, 1445), (353, 12, 44, 1446), (356, 12, 45, 1447), (97, 12, 46, 1448), (100, 12, 47, 1449), (103, 12, 48, 1450), (362, 12, 49, 1451), (106, 12, 50, 1452), (463, 12, 51, 1453), (109, 12, 52, 1454), (112, 12, 53, 1455), (115, 12, 54, 1456), (118, 12, 55, 1457), (121, 12, 56, 1458), (124, 12, 57, 1459), (127, 12, 58, 1460), (130, 12, 59, 1461), (359, 12, 60, 1462), (481, 12, 61, 1463), (134, 12, 62, 1464), (137, 12, 63, 1465)], [], [], [], [], [], [], [], []]
def nhIc : List (List (Nat × Int32 × Nat)) := [[], [], [], [], [], [], [], [], [], [], [], [(355, 100000, 1321)], [(484, 100000, 2042)], [], [(265, 1431655765, 1195), (266, 858993459, 1196), (267, 252645135, 1197), (264, 65536, 1359)], [], [], [], [], [(227, 65536, 765)], []]
def nhLc : List (List (Nat × Int64 × Nat)) := [[(53, -1, 1172)], [], [], [], [], [], [], [(76, -1, 1336)], [], [(67, 32, 676)], [], [(250, -1, 1077)], [(152, 1818324580, 1613), (154, 25209, 1614), (156, 448377677669, 1615), (158, 448546567013, 1616), (160, 24948, 1617), (162, 6513012, 1618), (164, 1735353715, 1619), (166, 426836257907, 1620), (168, 1734437989, 1621), (170, 1685217655, 1622), (172, 512852845416, 1623), (174, 1937007984, 1624), (176, 109330212154734, 1625), (178, 7499639, 1626), (180, 1953066100, 1627), (182, 474214787188, 1628), (184, 28530, 1629), (186, 6385252, 1630), (188, 7237492, 1631)], [(314, 6148914691236517205, 980), (316, 3689348814741910323, 981), (318, 1085102592571150095, 982)], [], [], [], [], [], [], []]
def nhFt (ci : Nat) : Nat → FieldType := match ci with
  | 0 => tyX0
  | 1 => tyX1
  | 2 => tyX2
  | 3 => tyX3
  | 4 => tyX4
  | 5 => tyX5
  | 6 => tyX6
  | 7 => tyX7
  | 8 => tyX8
  | 9 => tyX9
  | 10 => tyX10
  | 11 => tyX11
  | _ => tyX12
def nh_flB (o : Nat) (q : Nat × Nat × Nat × Nat) : Bool := match nhOw[o]?, nhCl[q.2.1]? with
  | some C, some r => decide (q.2.2.1 < r.2.2) && nh_wd q.2.2.2 (Cond.fieldLink C q.1 (r.2.1 q.2.2.1).1 (r.2.1 q.2.2.1).2.1 (r.2.1 q.2.2.1).2.2.1)
  | _, _ => false
def nh_icB (o : Nat) (q : Nat × Int32 × Nat) : Bool := match nhOw[o]? with
  | some C => nh_wd q.2.2 (Cond.constant C q.1 q.2.1)
  | _ => false
def nh_lcB (o : Nat) (q : Nat × Int64 × Nat) : Bool := match nhOw[o]? with
  | some C => nh_wd q.2.2 (Cond.constantLong C q.1 q.2.1)
  | _ => false
theorem nhFl_all : (List.range nhFl.length).all (fun o => (nhFl.getD o []).all (nh_flB o)) = true := by decide +kernel
theorem nhIc_all : (List.range nhIc.length).all (fun o => (nhIc.getD o []).all (nh_icB o)) = true := by decide +kernel
theorem nhLc_all : (List.range nhLc.length).all (fun o => (nhLc.getD o []).all (nh_lcB o)) = true := by decide +kernel
theorem nh_rows {α : Type} {L : List (List α)} {f : Nat → α → Bool} (h : (List.range L.length).all (fun o => (L.getD o []).all (f o)) = true) {o : Nat} {q : α} (hq : q ∈ L.getD o []) : f o q = true := by
  by_cases hl : o < L.length
  · exact List.all_eq_true.mp (List.all_eq_true.mp h o (List.mem_range.mpr hl)) q hq
  · rw [List.getD_eq_getElem?_getD, List.getElem?_eq_none (by omega)] at hq
    cases hq
theorem nhIn0 : ∀ w ∈ u_ws RX0 TX0 9, w ∈ nhTb := fun w h => by
  obtain ⟨k, hk, e⟩ := List.mem_map.mp h
  exact e ▸ nh_wd_ok (co_dec (N := 9) (P := fun k => nh_wd ([487, 489, 491, 493, 495, 497, 499, 501, 503].getD k 0) (u_lay RX0 TX0 k) = true) (by decide +kernel) (List.mem_range.mp hk))
theorem nhIn1 : ∀ w ∈ u_ws RX1 TX1 5, w ∈ nhTb := fun w h => by
  obtain ⟨k, hk, e⟩ := List.mem_map.mp h
  exact e ▸ nh_wd_ok (co_dec (N := 5) (P := fun k => nh_wd ([169, 171, 173, 175, 177].getD k 0) (u_lay RX1 TX1 k) = true) (by decide +kernel) (List.mem_range.mp hk))
theorem nhIn2 : ∀ w ∈ u_ws RX2 TX2 4, w ∈ nhTb := fun w h => by
  obtain ⟨k, hk, e⟩ := List.mem_map.mp h
  exact e ▸ nh_wd_ok (co_dec (N := 4) (P := fun k => nh_wd ([408, 410, 412, 414].getD k 0) (u_lay RX2 TX2 k) = true) (by decide +kernel) (List.mem_range.mp hk))
theorem nhIn3 : ∀ w ∈ u_ws RX3 TX3 14, w ∈ nhTb := fun w h => by
  obtain ⟨k, hk, e⟩ := List.mem_map.mp h
  exact e ▸ nh_wd_ok (co_dec (N := 14) (P := fun k => nh_wd ([232, 234, 236, 238, 240, 242, 244, 246, 248, 250, 252, 254, 256, 258].getD k 0) (u_lay RX3 TX3 k) = true) (by decide +kernel) (List.mem_range.mp hk))
theorem nhIn4 : ∀ w ∈ u_ws RX4 TX4 8, w ∈ nhTb := fun w h => by
  obtain ⟨k, hk, e⟩ := List.mem_map.mp h
  exact e ▸ nh_wd_ok (co_dec (N := 8) (P := fun k => nh_wd ([376, 378, 380, 382, 384, 386, 388, 390].getD k 0) (u_lay RX4 TX4 k) = true) (by decide +kernel) (List.mem_range.mp hk))
theorem nhIn5 : ∀ w ∈ u_ws RX5 TX5 7, w ∈ nhTb := fun w h => by
  obtain ⟨k, hk, e⟩ := List.mem_map.mp h
  exact e ▸ nh_wd_ok (co_dec (N := 7) (P := fun k => nh_wd ([453, 455, 457, 459, 461, 463, 465].getD k 0) (u_lay RX5 TX5 k) = true) (by decide +kernel) (List.mem_range.mp hk))
theorem nhIn6 : ∀ w ∈ u_ws RX6 TX6 13, w ∈ nhTb := fun w h => by
  obtain ⟨k, hk, e⟩ := List.mem_map.mp h
  exact e ▸ nh_wd_ok (co_dec (N := 13) (P := fun k => nh_wd ([314, 316, 318, 320, 322, 324, 326, 328, 330, 332, 334, 336, 338].getD k 0) (u_lay RX6 TX6 k) = true) (by decide +kernel) (List.mem_range.mp hk))
theorem nhIn7 : ∀ w ∈ u_ws RX7 TX7 10, w ∈ nhTb := fun w h => by
  obtain ⟨k, hk, e⟩ := List.mem_map.mp h
  exact e ▸ nh_wd_ok (co_dec (N := 10) (P := fun k => nh_wd ([525, 527, 529, 531, 533, 535, 537, 539, 541, 543].getD k 0) (u_lay RX7 TX7 k) = true) (by decide +kernel) (List.mem_range.mp hk))
theorem nhIn8 : ∀ w ∈ u_ws RX11 TX8 0, w ∈ nhTb := fun w h => by
  obtain ⟨k, hk, e⟩ := List.mem_map.mp h
  exact e ▸ nh_wd_ok (co_dec (N := 0) (P := fun k => nh_wd ([].getD k 0) (u_lay RX11 TX8 k) = true) (by decide +kernel) (List.mem_range.mp hk))
theorem nhIn9 : ∀ w ∈ u_ws RX9 TX9 7, w ∈ nhTb := fun w h => by
  obtain ⟨k, hk, e⟩ := List.mem_map.mp h
  exact e ▸ nh_wd_ok (co_dec (N := 7) (P := fun k => nh_wd ([284, 286, 288, 290, 292, 294, 296].getD k 0) (u_lay RX9 TX9 k) = true) (by decide +kernel) (List.mem_range.mp hk))
theorem nhIn10 : ∀ w ∈ u_ws RX10 TX10 4, w ∈ nhTb := fun w h => by
  obtain ⟨k, hk, e⟩ := List.mem_map.mp h
  exact e ▸ nh_wd_ok (co_dec (N := 4) (P := fun k => nh_wd ([428, 430, 432, 434].getD k 0) (u_lay RX10 TX10 k) = true) (by decide +kernel) (List.mem_range.mp hk))
theorem nhIn11 : ∀ w ∈ u_ws RX11 TX11 17, w ∈ nhTb := fun w h => by
  obtain ⟨k, hk, e⟩ := List.mem_map.mp h
  exact e ▸ nh_wd_ok (co_dec (N := 17) (P := fun k => nh_wd ([598, 600, 602, 604, 606, 608, 610, 612, 614, 616, 618, 620, 622, 624, 626, 628, 630].getD k 0) (u_lay RX11 TX11 k) = true) (by decide +kernel) (List.mem_range.mp hk))
theorem nhIn12 : ∀ w ∈ u_ws RX12 TX12 64, w ∈ nhTb := fun w h => by
  obtain ⟨k, hk, e⟩ := List.mem_map.mp h
  exact e ▸ nh_wd_ok (co_dec (N := 64) (P := fun k => nh_wd ([1466, 1468, 1470, 1472, 1474, 1476, 1478, 1480, 1482, 1484, 1486, 1488, 1490, 1492, 1494, 1496, 1498, 1500, 1502, 1504, 1506, 1508, 1510, 1512, 1514, 1516, 1518, 1520, 1522, 1524, 1526, 1528, 1530, 1532, 1534, 1536, 1538, 1540, 1542, 1544, 1546, 1548, 1550, 1552, 1554, 1556, 1558, 1560, 1562, 1564, 1566, 1568, 1570, 1572, 1574, 1576, 1578, 1580, 1582, 1584, 1586, 1588, 1590, 1592].getD k 0) (u_lay RX12 TX12 k) = true) (by decide +kernel) (List.mem_range.mp hk))
theorem nhCl_in {ci : Nat} {r : vw_C} (h : nhCl[ci]? = some r) : (∀ w ∈ u_ws r.1 r.2.1 r.2.2, w ∈ nhTb) ∧ (∀ k, k < r.2.2 → parseFieldDescriptor (r.2.1 k).2.2.1 = some (nhFt ci k)) ∧ ∀ a, a < r.2.2 → ∀ b, b < r.2.2 → a ≠ b → (r.2.1 a).2.1 ≠ (r.2.1 b).2.1 := by
  match ci, h with
  | 0, h => cases h; exact ⟨nhIn0, tyX0_ok, nmX0⟩
  | 1, h => cases h; exact ⟨nhIn1, tyX1_ok, nmX1⟩
  | 2, h => cases h; exact ⟨nhIn2, tyX2_ok, nmX2⟩
  | 3, h => cases h; exact ⟨nhIn3, tyX3_ok, nmX3⟩
  | 4, h => cases h; exact ⟨nhIn4, tyX4_ok, nmX4⟩
  | 5, h => cases h; exact ⟨nhIn5, tyX5_ok, nmX5⟩
  | 6, h => cases h; exact ⟨nhIn6, tyX6_ok, nmX6⟩
  | 7, h => cases h; exact ⟨nhIn7, tyX7_ok, nmX7⟩
  | 8, h => cases h; exact ⟨nhIn8, tyX8_ok, nmX8⟩
  | 9, h => cases h; exact ⟨nhIn9, tyX9_ok, nmX9⟩
  | 10, h => cases h; exact ⟨nhIn10, tyX10_ok, nmX10⟩
  | 11, h => cases h; exact ⟨nhIn11, tyX11_ok, nmX11⟩
  | 12, h => cases h; exact ⟨nhIn12, tyX12_ok, nmX12⟩
  | n + 13, h => simp at h
