/-! constructors by program -/
def ceCt : List nhMth := [(⟨"NightHouses", "<init>", "()V"⟩, prog_1_method_1_code, 2, none, false, 0),
  (⟨"NightHouses$Land", "<init>", "()V"⟩, prog_5_method_1_code, 1, none, false, 0),
  (⟨"NightHouses$Formula", "<init>", "()V"⟩, prog_3_method_1_code, 1, none, false, 0),
  (⟨"NightHouses$Reader", "<init>", "()V"⟩, prog_8_method_1_code, 1, none, false, 0),
  (⟨"NightHouses$Tokens", "<init>", "()V"⟩, prog_11_method_1_code, 1, none, false, 0),
  (⟨"NightHouses$Night", "<init>", "()V"⟩, prog_6_method_1_code, 1, none, false, 0),
  (⟨"NightHouses$History", "<init>", "()V"⟩, prog_4_method_1_code, 2, none, false, 0),
  (⟨"NightHouses$Walks", "<init>", "()V"⟩, prog_12_method_1_code, 1, none, false, 0),
  (⟨"NightHouses$Planner", "<init>", "()V"⟩, prog_7_method_1_code, 2, none, false, 0),
  (⟨"NightHouses$Fencer", "<init>", "()V"⟩, prog_2_method_1_code, 1, none, false, 0),
  (⟨"NightHouses$Sightings", "<init>", "()V"⟩, prog_9_method_1_code, 1, none, false, 0),
  (⟨"NightHousesModel", "<init>", "()V"⟩, prog_14_method_1_code, 1, none, false, 0)]
set_option maxRecDepth 100000 in
theorem ceCt_c : ceCt.map (fun y => Cond.code y.1 y.2.1 y.2.2.1 y.2.2.2.1) = [146, 154, 160, 265, 271, 346, 397, 421, 441, 472, 510, 1380].filterMap (fun i => lw_tbl[i]?) := rfl
set_option maxRecDepth 100000 in
theorem ceCt_i : ceCt.map (fun y => Cond.initialized y.1.cls) = [118, 119, 120, 121, 122, 123, 124, 125, 126, 127, 128, 131].filterMap (fun i => lw_tbl[i]?) := rfl
set_option maxRecDepth 100000 in
theorem ceCt_s : ceCt.map (fun y => Cond.instanceMethod y.1) = [145, 153, 159, 264, 270, 345, 396, 420, 440, 471, 509, 1379].filterMap (fun i => lw_tbl[i]?) := rfl
set_option maxRecDepth 100000 in
theorem ceCt_d : ceCt.all (fun y => decide (y.1.name = "<init>" ∧ y.2.2.2.1 = none ∧ y.1.cls ≠ "java/lang/invoke/MethodHandle" ∧ y.1.cls ≠ "java/lang/invoke/VarHandle" ∧ (parseMethodDescriptor y.1.desc).map (fun d => d.parameters.length) = some y.2.2.2.2.2) && plainName y.1.cls) = true := by decide +kernel
def ceD_0 : nhDt := [(0, .aload_n 0, 1), (1, .invokespecial 1, 3), (4, .aload_n 0, 1), (5, .sipush 1600, 3), (8, .newarray .byte, 2), (10, .putfield 9, 3), (13, .aload_n 0, 1), (14, .iconst 0, 1), (15, .putfield 13, 3), (18, .aload_n 0, 1), (19, .new 17, 3), (22, .dup, 1), (23, .invokespecial 19, 3), (26, .putfield 20, 3), (29, .aload_n 0, 1), (30, .new 17, 3), (33, .dup, 1), (34, .invokespecial 19, 3), (37, .putfield 24, 3), (40, .aload_n 0, 1), (41, .new 27, 3), (44, .dup, 1), (45, .invokespecial 29, 3), (48, .putfield 30, 3), (51, .aload_n 0, 1), (52, .new 34, 3), (55, .dup, 1), (56, .invokespecial 36, 3), (59, .putfield 37, 3), (62, .aload_n 0, 1), (63, .new 34, 3), (66, .dup, 1), (67, .invokespecial 36, 3), (70, .putfield 41, 3), (73, .aload_n 0, 1), (74, .new 44, 3), (77, .dup, 1), (78, .invokespecial 46, 3), (81, .putfield 47, 3), (84, .aload_n 0, 1), (85, .iconst 3, 1), (86, .anewarray 34, 3), (89, .putfield 51, 3), (92, .aload_n 0, 1), (93, .iconst 0, 1), (94, .putfield 55, 3), (97, .aload_n 0, 1), (98, .new 58, 3), (101, .dup, 1), (102, .invokespecial 60, 3), (105, .putfield 61, 3), (108, .aload_n 0, 1), (109, .new 65, 3), (112, .dup, 1), (113, .invokespecial 67, 3), (116, .putfield 68, 3), (119, .aload_n 0, 1), (120, .new 72, 3), (123, .dup, 1), (124, .invokespecial 74, 3), (127, .putfield 75, 3), (130, .aload_n 0, 1), (131, .new 79, 3), (134, .dup, 1), (135, .invokespecial 81, 3), (138, .putfield 82, 3), (141, .aload_n 0, 1), (142, .iconst 0, 1), (143, .putfield 86, 3), (146, .aload_n 0, 1), (147, .bipush 10, 2), (149, .newarray .int, 2), (151, .putfield 89, 3), (154, .aload_n 0, 1), (155, .iconst 0, 1), (156, .putfield 93, 3), (159, .iconst 0, 1), (160, .istore_n 1, 1), (161, .iload_n 1, 1), (162, .iconst 3, 1), (163, .if_icmp .ge 22, 3), (166, .aload_n 0, 1), (167, .getfield 51, 3), (170, .iload_n 1, 1), (171, .new 34, 3), (174, .dup, 1), (175, .invokespecial 36, 3), (178, .aastore, 1), (179, .iinc 1 1, 3), (182, .goto (-21), 3), (185, .aload_n 0, 1), (186, .getfield 20, 3), (189, .invokevirtual 96, 3), (192, .aload_n 0, 1), (193, .getfield 20, 3), (196, .invokevirtual 99, 3), (199, .aload_n 0, 1), (200, .getfield 37, 3), (203, .aload_n 0, 1), (204, .getfield 20, 3), (207, .invokevirtual 102, 3), (210, .aload_n 0, 1), (211, .getfield 82, 3), (214, .invokevirtual 106, 3), (217, .return_, 1)]
set_option maxRecDepth 100000 in
theorem ceD_0_ok : nh_dtB prog_1_method_1_code ceD_0 = true := by decide +kernel
def ceD_1 : nhDt := [(0, .aload_n 0, 1), (1, .invokespecial 3, 3), (4, .aload_n 0, 1), (5, .iconst 5, 1), (6, .newarray .int, 2), (8, .putfield 9, 3), (11, .aload_n 0, 1), (12, .new 15, 3), (15, .dup, 1), (16, .invokespecial 17, 3), (19, .putfield 18, 3), (22, .aload_n 0, 1), (23, .bipush 36, 2), (25, .newarray .int, 2), (27, .putfield 22, 3), (30, .aload_n 0, 1), (31, .bipush 36, 2), (33, .newarray .int, 2), (35, .putfield 25, 3), (38, .aload_n 0, 1), (39, .sipush 180, 3), (42, .newarray .int, 2), (44, .putfield 28, 3), (47, .return_, 1)]
set_option maxRecDepth 100000 in
theorem ceD_1_ok : nh_dtB prog_5_method_1_code ceD_1 = true := by decide +kernel
def ceD_2 : nhDt := [(0, .aload_n 0, 1), (1, .invokespecial 1, 3), (4, .aload_n 0, 1), (5, .sipush 300, 3), (8, .newarray .int, 2), (10, .putfield 9, 3), (13, .aload_n 0, 1), (14, .bipush 6, 2), (16, .newarray .int, 2), (18, .putfield 13, 3), (21, .aload_n 0, 1), (22, .bipush 60, 2), (24, .newarray .int, 2), (26, .putfield 16, 3), (29, .return_, 1)]
set_option maxRecDepth 100000 in
theorem ceD_2_ok : nh_dtB prog_3_method_1_code ceD_2 = true := by decide +kernel
def ceD_3 : nhDt := [(0, .aload_n 0, 1), (1, .invokespecial 3, 3), (4, .aload_n 0, 1), (5, .new 9, 3), (8, .dup, 1), (9, .invokespecial 11, 3), (12, .putfield 12, 3), (15, .aload_n 0, 1), (16, .iconst 5, 1), (17, .newarray .long, 2), (19, .putfield 18, 3), (22, .aload_n 0, 1), (23, .iconst 0, 1), (24, .putfield 22, 3), (27, .aload_n 0, 1), (28, .iconst (-1), 1), (29, .putfield 26, 3), (32, .return_, 1)]
set_option maxRecDepth 100000 in
theorem ceD_3_ok : nh_dtB prog_8_method_1_code ceD_3 = true := by decide +kernel
def ceD_4 : nhDt := [(0, .aload_n 0, 1), (1, .invokespecial 1, 3), (4, .return_, 1)]
set_option maxRecDepth 100000 in
theorem ceD_4_ok : nh_dtB prog_11_method_1_code ceD_4 = true := by decide +kernel
def ceD_5 : nhDt := [(0, .aload_n 0, 1), (1, .invokespecial 3, 3), (4, .aload_n 0, 1), (5, .iconst 5, 1), (6, .newarray .int, 2), (8, .putfield 9, 3), (11, .aload_n 0, 1), (12, .iconst 5, 1), (13, .newarray .int, 2), (15, .putfield 15, 3), (18, .aload_n 0, 1), (19, .iconst 5, 1), (20, .newarray .int, 2), (22, .putfield 18, 3), (25, .return_, 1)]
set_option maxRecDepth 100000 in
theorem ceD_5_ok : nh_dtB prog_6_method_1_code ceD_5 = true := by decide +kernel
def ceD_6 : nhDt := [(0, .aload_n 0, 1), (1, .invokespecial 1, 3), (4, .aload_n 0, 1), (5, .bipush 41, 2), (7, .anewarray 9, 3), (10, .putfield 11, 3), (13, .aload_n 0, 1), (14, .iconst 0, 1), (15, .putfield 15, 3), (18, .aload_n 0, 1), (19, .iconst 0, 1), (20, .putfield 19, 3), (23, .aload_n 0, 1), (24, .iconst 0, 1), (25, .putfield 22, 3), (28, .iconst 0, 1), (29, .istore_n 1, 1), (30, .iload_n 1, 1), (31, .bipush 41, 2), (33, .if_icmp .ge 22, 3), (36, .aload_n 0, 1), (37, .getfield 11, 3), (40, .iload_n 1, 1), (41, .new 9, 3), (44, .dup, 1), (45, .invokespecial 25, 3), (48, .aastore, 1), (49, .iinc 1 1, 3), (52, .goto (-22), 3), (55, .return_, 1)]
set_option maxRecDepth 100000 in
theorem ceD_6_ok : nh_dtB prog_4_method_1_code ceD_6 = true := by decide +kernel
def ceD_7 : nhDt := [(0, .aload_n 0, 1), (1, .invokespecial 3, 3), (4, .aload_n 0, 1), (5, .bipush 36, 2), (7, .newarray .int, 2), (9, .putfield 9, 3), (12, .aload_n 0, 1), (13, .bipush 36, 2), (15, .newarray .int, 2), (17, .putfield 15, 3), (20, .aload_n 0, 1), (21, .bipush 36, 2), (23, .newarray .int, 2), (25, .putfield 18, 3), (28, .return_, 1)]
set_option maxRecDepth 100000 in
theorem ceD_7_ok : nh_dtB prog_12_method_1_code ceD_7 = true := by decide +kernel
def ceD_8 : nhDt := [(0, .aload_n 0, 1), (1, .invokespecial 3, 3), (4, .aload_n 0, 1), (5, .bipush 10, 2), (7, .newarray .int, 2), (9, .putfield 9, 3), (12, .aload_n 0, 1), (13, .bipush 10, 2), (15, .newarray .int, 2), (17, .putfield 15, 3), (20, .aload_n 0, 1), (21, .bipush 11, 2), (23, .anewarray 18, 3), (26, .putfield 20, 3), (29, .iconst 0, 1), (30, .istore_n 1, 1), (31, .iload_n 1, 1), (32, .bipush 10, 2), (34, .if_icmp .gt 22, 3), (37, .aload_n 0, 1), (38, .getfield 20, 3), (41, .iload_n 1, 1), (42, .new 18, 3), (45, .dup, 1), (46, .invokespecial 24, 3), (49, .aastore, 1), (50, .iinc 1 1, 3), (53, .goto (-22), 3), (56, .return_, 1)]
set_option maxRecDepth 100000 in
theorem ceD_8_ok : nh_dtB prog_7_method_1_code ceD_8 = true := by decide +kernel
def ceD_9 : nhDt := [(0, .aload_n 0, 1), (1, .invokespecial 3, 3), (4, .aload_n 0, 1), (5, .new 9, 3), (8, .dup, 1), (9, .invokespecial 11, 3), (12, .putfield 12, 3), (15, .aload_n 0, 1), (16, .bipush 36, 2), (18, .newarray .long, 2), (20, .putfield 18, 3), (23, .return_, 1)]
set_option maxRecDepth 100000 in
theorem ceD_9_ok : nh_dtB prog_2_method_1_code ceD_9 = true := by decide +kernel
def ceD_10 : nhDt := [(0, .aload_n 0, 1), (1, .invokespecial 3, 3), (4, .aload_n 0, 1), (5, .bipush 30, 2), (7, .newarray .int, 2), (9, .putfield 11, 3), (12, .aload_n 0, 1), (13, .bipush 30, 2), (15, .newarray .int, 2), (17, .putfield 15, 3), (20, .aload_n 0, 1), (21, .bipush 30, 2), (23, .newarray .boolean, 2), (25, .putfield 18, 3), (28, .aload_n 0, 1), (29, .bipush 30, 2), (31, .newarray .int, 2), (33, .putfield 22, 3), (36, .aload_n 0, 1), (37, .bipush 30, 2), (39, .newarray .int, 2), (41, .putfield 25, 3), (44, .aload_n 0, 1), (45, .sipush 468, 3), (48, .newarray .int, 2), (50, .putfield 28, 3), (53, .aload_n 0, 1), (54, .bipush 36, 2), (56, .newarray .int, 2), (58, .putfield 31, 3), (61, .aload_n 0, 1), (62, .new 34, 3), (65, .dup, 1), (66, .invokespecial 36, 3), (69, .putfield 37, 3), (72, .aload_n 0, 1), (73, .iconst 0, 1), (74, .putfield 41, 3), (77, .aload_n 0, 1), (78, .iconst 0, 1), (79, .putfield 45, 3), (82, .return_, 1)]
set_option maxRecDepth 100000 in
theorem ceD_10_ok : nh_dtB prog_9_method_1_code ceD_10 = true := by decide +kernel
def ceD_11 : nhDt := [(0, .aload_n 0, 1), (1, .invokespecial 1, 3), (4, .aload_n 0, 1), (5, .sipush 1620, 3), (8, .newarray .byte, 2), (10, .putfield 7, 3), (13, .aload_n 0, 1), (14, .sipush 1600, 3), (17, .newarray .byte, 2), (19, .putfield 13, 3), (22, .aload_n 0, 1), (23, .iconst (-1), 1), (24, .putfield 16, 3), (27, .aload_n 0, 1), (28, .iconst 2, 1), (29, .newarray .int, 2), (31, .putfield 20, 3), (34, .aload_n 0, 1), (35, .iconst 2, 1), (36, .newarray .int, 2), (38, .putfield 24, 3), (41, .aload_n 0, 1), (42, .iconst 2, 1), (43, .newarray .int, 2), (45, .putfield 27, 3), (48, .aload_n 0, 1), (49, .iconst 2, 1), (50, .newarray .int, 2), (52, .putfield 30, 3), (55, .aload_n 0, 1), (56, .iconst 2, 1), (57, .newarray .int, 2), (59, .putfield 33, 3), (62, .aload_n 0, 1), (63, .iconst 2, 1), (64, .newarray .int, 2), (66, .putfield 36, 3), (69, .aload_n 0, 1), (70, .iconst 2, 1), (71, .newarray .int, 2), (73, .putfield 39, 3), (76, .aload_n 0, 1), (77, .iconst 2, 1), (78, .newarray .int, 2), (80, .putfield 42, 3), (83, .aload_n 0, 1), (84, .iconst 2, 1), (85, .newarray .int, 2), (87, .putfield 45, 3), (90, .aload_n 0, 1), (91, .iconst 2, 1), (92, .newarray .int, 2), (94, .putfield 48, 3), (97, .aload_n 0, 1), (98, .iconst 2, 1), (99, .newarray .int, 2), (101, .putfield 51, 3), (104, .aload_n 0, 1), (105, .bipush 16, 2), (107, .newarray .int, 2), (109, .putfield 54, 3), (112, .aload_n 0, 1), (113, .bipush 10, 2), (115, .newarray .int, 2), (117, .putfield 57, 3), (120, .aload_n 0, 1), (121, .iconst 2, 1), (122, .newarray .int, 2), (124, .putfield 60, 3), (127, .aload_n 0, 1), (128, .iconst 2, 1), (129, .newarray .int, 2), (131, .putfield 63, 3), (134, .aload_n 0, 1), (135, .bipush 10, 2), (137, .newarray .long, 2), (139, .putfield 66, 3), (142, .aload_n 0, 1), (143, .sipush 1120, 3), (146, .newarray .int, 2), (148, .putfield 70, 3), (151, .aload_n 0, 1), (152, .sipush 1120, 3), (155, .newarray .int, 2), (157, .putfield 73, 3), (160, .aload_n 0, 1), (161, .bipush 90, 2), (163, .newarray .int, 2), (165, .putfield 76, 3), (168, .aload_n 0, 1), (169, .bipush 90, 2), (171, .newarray .int, 2), (173, .putfield 79, 3), (176, .aload_n 0, 1), (177, .bipush 60, 2), (179, .newarray .int, 2), (181, .putfield 82, 3), (184, .aload_n 0, 1), (185, .bipush 55, 2), (187, .newarray .int, 2), (189, .putfield 85, 3), (192, .aload_n 0, 1), (193, .iconst (-1), 1), (194, .putfield 88, 3), (197, .aload_n 0, 1), (198, .iconst 5, 1), (199, .newarray .int, 2), (201, .putfield 91, 3), (204, .aload_n 0, 1), (205, .sipush 2255, 3), (208, .newarray .int, 2), (210, .putfield 94, 3), (213, .aload_n 0, 1), (214, .bipush 55, 2), (216, .newarray .int, 2), (218, .putfield 97, 3), (221, .aload_n 0, 1), (222, .bipush 10, 2), (224, .newarray .int, 2), (226, .putfield 100, 3), (229, .aload_n 0, 1), (230, .bipush 36, 2), (232, .newarray .int, 2), (234, .putfield 103, 3), (237, .aload_n 0, 1), (238, .bipush 36, 2), (240, .newarray .int, 2), (242, .putfield 106, 3), (245, .aload_n 0, 1), (246, .sipush 468, 3), (249, .newarray .int, 2), (251, .putfield 109, 3), (254, .aload_n 0, 1), (255, .bipush 30, 2), (257, .newarray .int, 2), (259, .putfield 112, 3), (262, .aload_n 0, 1), (263, .bipush 30, 2), (265, .newarray .int, 2), (267, .putfield 115, 3), (270, .aload_n 0, 1), (271, .bipush 30, 2), (273, .newarray .int, 2), (275, .putfield 118, 3), (278, .aload_n 0, 1), (279, .bipush 30, 2), (281, .newarray .int, 2), (283, .putfield 121, 3), (286, .aload_n 0, 1), (287, .bipush 30, 2), (289, .newarray .int, 2), (291, .putfield 124, 3), (294, .aload_n 0, 1), (295, .bipush 36, 2), (297, .newarray .int, 2), (299, .putfield 127, 3), (302, .aload_n 0, 1), (303, .bipush 36, 2), (305, .newarray .boolean, 2), (307, .putfield 130, 3), (310, .aload_n 0, 1), (311, .sipush 165, 3), (314, .newarray .int, 2), (316, .putfield 134, 3), (319, .aload_n 0, 1), (320, .iconst 3, 1), (321, .newarray .boolean, 2), (323, .putfield 137, 3), (326, .aload_n 0, 1), (327, .invokevirtual 140, 3), (330, .aload_n 0, 1), (331, .invokevirtual 143, 3), (334, .return_, 1)]
set_option maxRecDepth 100000 in
theorem ceD_11_ok : nh_dtB prog_14_method_1_code ceD_11 = true := by decide +kernel
def ceDa : List nhDt := [ceD_0, ceD_1, ceD_2, ceD_3, ceD_4, ceD_5, ceD_6, ceD_7, ceD_8, ceD_9, ceD_10, ceD_11]
theorem ceDz : nhZ ceCt ceDa := ⟨ceD_0_ok, ceD_1_ok, ceD_2_ok, ceD_3_ok, ceD_4_ok, ceD_5_ok, ceD_6_ok, ceD_7_ok, ceD_8_ok, ceD_9_ok, ceD_10_ok, ceD_11_ok, trivial⟩
def ccMo : List Nat := [3, 3, 1, 3, 3, 4, 16, 7, 11, 11, 11, 11, 6, 9, 9, 9, 9, 9, 9, 9, 9, 6, 6, 6, 6, 6, 6, 6, 6, 6, 3, 6, 6, 6, 6, 6, 6, 6, 1, 6, 6, 6, 6, 6, 6, 6, 6, 6, 2, 11, 11, 11, 8, 3, 3, 1, 1, 1, 1, 11, 11, 11, 4, 3, 11, 13, 11, 11, 11, 8, 11, 11, 8, 11, 11, 11, 11, 2, 2, 4, 8, 8, 3, 8, 8, 11, 11, 11, 11, 11, 11, 2, 11, 2, 11, 11, 11, 11, 11, 11, 11, 11, 11, 5, 5, 5, 5, 11, 11, 0, 0, 0, 0, 0, 0, 11, 14, 11, 11, 10, 10, 10, 10, 11, 11, 11, 11, 11, 10, 10, 10, 11, 11, 11, 11, 11, 11, 11, 11, 11, 11, 11, 11, 7, 11, 7, 11, 11, 7, 7, 7, 7, 7, 11, 13, 14, 13, 14, 11, 7, 12, 12, 12, 12, 12, 12, 12, 12, 12, 12, 12, 12, 12, 12, 12, 12, 12, 12, 12, 12, 12, 12, 12, 12, 12, 12, 12, 12, 12, 12, 12, 12, 12, 12, 12, 12, 12, 12, 12, 12, 12, 12, 12, 12, 12, 12, 12, 12, 12, 12, 12, 12, 12, 12, 12, 12, 12, 12, 12, 12, 12, 12, 12, 12, 12, 12, 12, 12, 12, 12, 12, 12, 12, 12, 12, 12, 12, 12, 12, 12, 12, 12, 12, 12, 12, 12, 12, 12, 12, 12, 12, 12, 12, 12, 12, 12, 12, 12, 12, 12, 12, 12, 12, 12, 12, 12, 12, 12, 12, 12, 12, 12, 12, 12, 12, 12, 12, 12, 12, 12, 12, 12, 12, 12, 12, 12]
def ceMo : List Nat := [11, 3, 1, 6, 9, 4, 2, 10, 5, 0, 7, 12]
def ceNw : List (String × Nat × MethodName) := [("NightHouses", 19, ⟨"NightHouses$Land", "<init>", "()V"⟩), ("NightHouses$Land", 17, ⟨"NightHouses$Formula", "<init>", "()V"⟩), ("NightHouses", 29, ⟨"NightHouses$Reader", "<init>", "()V"⟩), ("NightHouses$Reader", 11, ⟨"NightHouses$Tokens", "<init>", "()V"⟩), ("NightHouses", 36, ⟨"NightHouses$Night", "<init>", "()V"⟩), ("NightHouses$History", 25, ⟨"NightHouses$Night", "<init>", "()V"⟩), ("NightHouses", 60, ⟨"NightHouses$Walks", "<init>", "()V"⟩), ("NightHouses$Planner", 24, ⟨"NightHouses$Night", "<init>", "()V"⟩), ("NightHouses", 74, ⟨"NightHouses$Fencer", "<init>", "()V"⟩), ("NightHouses$Fencer", 11, ⟨"NightHouses$Night", "<init>", "()V"⟩), ("NightHouses", 81, ⟨"NightHouses$Sightings", "<init>", "()V"⟩), ("NightHouses$Sightings", 36, ⟨"NightHouses$Night", "<init>", "()V"⟩)]
def ceCi : List (List (Nat × Nat × Nat × Nat)) := [[(11, 5, 1, 9)], [], [(25, 5, 1, 5)], [(17, 2, 1, 1)], [], [(24, 5, 1, 7)], [(11, 4, 1, 3)], [(36, 5, 1, 11)], [], [], [], [(19, 1, 1, 0), (29, 3, 1, 2), (36, 5, 1, 4), (60, 7, 1, 6), (74, 9, 1, 8), (81, 10, 1, 10), (46, 6, 0, 395), (67, 8, 0, 439)], [], [], [], [], [], [], [], [], [(9, 0, 0, 144), (12, 11, 0, 1378)]]
def ce_ciB (o : Nat) (q : Nat × Nat × Nat × Nat) : Bool := match nhOw[o]?, ceCt[q.2.1]? with
  | some C, some y => if q.2.2.1 = 0 then nh_wd q.2.2.2 (Cond.methodLink C q.1 y.1) else decide (ceNw[q.2.2.2]? = some (C, q.1, y.1))
  | _, _ => false
set_option maxRecDepth 100000 in
theorem ceCi_all : (List.range ceCi.length).all (fun o => (ceCi.getD o []).all (ce_ciB o)) = true := by decide +kernel
/-- what the tables say beyond the words: links to nest mates' constructors, arrays of nights -/
def ceNs (U : State) : Prop := (∀ q ∈ ceNw, va_Nw (.methodLinkNest q.1 q.2.1 q.2.2 "NightHouses") U) ∧ va_AO "NightHouses$Night" U
theorem ceNs.warm {s U : State} (hW : s.WarmedH U.vm) (h : ceNs s) : ceNs U := ⟨fun q hq => va_Nw.warmM hW (h.1 q hq), h.2.moved hW.alike⟩
theorem ceNs.same {u U : State} (hv : u.vm = U.vm) (h : ceNs u) : ceNs U := ⟨fun q hq => va_Nw.same rfl hv (h.1 q hq), h.2.moved (by rw [hv]; exact Vm.Alike.refl _)⟩
def ce_ctP (y : nhMth) : Prop := Cond.code y.1 y.2.1 y.2.2.1 y.2.2.2.1 ∈ nhTb ∧ Cond.initialized y.1.cls ∈ nhTb ∧ Cond.instanceMethod y.1 ∈ nhTb ∧ (y.1.name = "<init>" ∧ y.2.2.2.1 = none ∧ y.1.cls ≠ "java/lang/invoke/MethodHandle" ∧ y.1.cls ≠ "java/lang/invoke/VarHandle" ∧ (parseMethodDescriptor y.1.desc).map (fun d => d.parameters.length) = some y.2.2.2.2.2) ∧ plainName y.1.cls = true
theorem ce_ct_ok {k : Nat} {y : nhMth} (h : ceCt[k]? = some y) : ce_ctP y := by
  have hy := List.mem_of_getElem? h
  have h6 := List.all_eq_true.mp ceCt_d y hy
  simp only [Bool.and_eq_true, decide_eq_true_eq] at h6
  exact ⟨nhCd0 ceCt_c (fun _ => rfl) hy, nhCd0 ceCt_i (fun _ => rfl) hy, nhCd0 ceCt_s (fun _ => rfl) hy, h6.1, h6.2⟩
def ce_m (mn : Nat) : Option nhMth := if mn < 1000 then nhMt[mn]? else ceCt[mn - 1000]?
def ce_dt (mn : Nat) : nhDt := if mn < 1000 then nhDa.getD mn [] else ceDa.getD (mn - 1000) []
def ce_ow (mn : Nat) : Nat := if mn < 1000 then ccMo.getD mn 99 else ceMo.getD (mn - 1000) 99
theorem ce_dt_ok {mn : Nat} {y : nhMth} (h : ce_m mn = some y) : nh_dtB y.2.1 (ce_dt mn) = true := by
  unfold ce_m at h
  unfold ce_dt
  split at h
  · rename_i hlt
    rw [if_pos hlt]
    exact nhDz.at h
  · rename_i hlt
    rw [if_neg hlt]
    exact ceDz.at h
/-- contracts of known values -/
def cePc (D : nhD) (ρ : Nat → Int32) (B : Nat) (H0 : Heap) (as : List ceV) (hp : ceHp) : Array Value → State → Prop := fun a U => a = (as.map (ce_c ρ B)).toArray ∧ ceH D ρ B H0 hp U.heap ∧ nhK D U ∧ ceNs U
def ceQc (D : nhD) (ρ : Nat → Int32) (B : Nat) (H0 : Heap) (r : Option ceV) (hp : ceHp) : Array Value → State → Outcome → State → Prop := fun _ _ o t => o = .returned (r.map (ce_c ρ B)) ∧ ceH D ρ B H0 hp t.heap
def ceRm (d mc ms : Nat) : Room := { frames := d, cells := mc, slots := ms, locals := 60 * d }
def ceMet (y : nhMth) (d : Nat) (as : List ceV) (hp : ceHp) (r : Option ceV) (hp' : ceHp) (mc ms : Nat) : Prop := ∀ (l : Launch) (D : nhD) (ρ : Nat → Int32) (B : Nat) (H0 : Heap), Met l y.1 (nhWs y) (ceRm d mc ms) (cePc D ρ B H0 as hp) (ceQc D ρ B H0 r hp') mc ms (fun a => B ≤ a)
theorem cePc_blind (D : nhD) (ρ : Nat → Int32) (B : Nat) (H0 : Heap) (as : List ceV) (hp : ceHp) : FrameBlind (cePc D ρ B H0 as hp) := fun a U g mk q => by
  obtain ⟨h1, h2, h3, h4⟩ := q
  exact ⟨h1, h2, nhK.moved (u := U) (U := U.calling g mk a) (Vm.Alike.refl U.vm) h3, ceNs.same (u := U) (U := U.calling g mk a) rfl h4⟩
def ce_sum (st : List ceV) : Nat := (st.map (fun v => if ce_ty v = 1 then 2 else 1)).sum
theorem ce_sum_ok (ρ : Nat → Int32) (B : Nat) (st : List ceV) : ((st.map (ce_c ρ B)).map fun v => v.category).sum = ce_sum st := by
  unfold ce_sum
  rw [List.map_map]
  congr 1
  apply List.map_congr_left
  intro v _
  exact ce_cat ρ B v
/-- natives, Math, Object's constructor -/
def ce_cpy (els0 els1 : List ceV) (sp dp n : Nat) : List ceV := (List.range els1.length).map (fun k => if dp ≤ k ∧ k < dp + n then els0.getD (sp + (k - dp)) (3, 0) else els1.getD k (3, 0))
def ce_nat (own pc : Nat) (i : Instr) (len : Nat) (lo : List (Nat × ceV)) (st : List ceV) (hp : ceHp) : Option ceS := match i with
  | .invokespecial idx => match (ceOi.getD own []).find? (fun q => q.1 == idx) with
    | some _ => match st with
      | (2, _) :: r => if len = 3 ∧ ce_sum r ≤ 8 then some (pc + 3, lo, r, hp) else none
      | _ => none
    | none => none
  | .invokestatic idx => match (ceSp.getD own []).find? (fun q => q.1 == idx) with
    | some q => if q.2.1 = 0 then (match st with
        | (0, n) :: (0, dp) :: (2, a) :: (0, sp) :: (2, a0) :: r => match ce_get hp a0.toNat, ce_get hp a.toNat with
          | some k0, some k1 => if len = 3 ∧ ce_sum r ≤ 8 ∧ k0.1 = 1 ∧ k0.2.1 = 0 ∧ k1.1 = 1 ∧ k1.2.1 = 0 ∧ k0.2.2.all (fun v => v.1 == 0) = true ∧ k1.2.2.all (fun v => v.1 == 0) = true ∧ 0 ≤ (Int32.ofInt n).toInt ∧ 0 ≤ (Int32.ofInt dp).toInt ∧ 0 ≤ (Int32.ofInt sp).toInt ∧ (Int32.ofInt sp).toInt.toNat + (Int32.ofInt n).toInt.toNat ≤ k0.2.2.length ∧ (Int32.ofInt dp).toInt.toNat + (Int32.ofInt n).toInt.toNat ≤ k1.2.2.length then some (pc + 3, lo, r, ce_set hp a.toNat (1, 0, ce_cpy k0.2.2 k1.2.2 (Int32.ofInt sp).toInt.toNat (Int32.ofInt dp).toInt.toNat (Int32.ofInt n).toInt.toNat)) else none
          | _, _ => none
        | _ => none)
      else if q.2.1 = 1 then (match st with
        | (0, y) :: (0, x) :: r => if len = 3 ∧ ce_sum r ≤ 8 then some (pc + 3, lo, (0, (if Int32.ofInt y < Int32.ofInt x then Int32.ofInt y else Int32.ofInt x).toInt) :: r, hp) else none
        | _ => none)
      else if q.2.1 = 2 then (match st with
        | (0, y) :: (0, x) :: r => if len = 3 ∧ ce_sum r ≤ 8 then some (pc + 3, lo, (0, (if Int32.ofInt x < Int32.ofInt y then Int32.ofInt y else Int32.ofInt x).toInt) :: r, hp) else none
        | _ => none)
      else (match st with
        | (0, x) :: r => if len = 3 ∧ ce_sum r ≤ 8 then some (pc + 3, lo, (0, (if 0 ≤ Int32.ofInt x then Int32.ofInt x else 0 - Int32.ofInt x).toInt) :: r, hp) else none
        | _ => none)
    | none => none
  | _ => none
section CE6
variable {p : Program} {l : Launch} {e : Env} {R : Room} {s : State} {m : MethodId} {args : Array Value} {below : List Frame} {meth : Method} {c : Code} {Q : State → Prop} {cc : ByteArray} {pc own : Nat} {D : nhD} {ρ : Nat → Int32} {B : Nat} {H0 : Heap} {nL cn cz : Nat} {lo : List (Nat × ceV)} {st : List ceV} {hp : ceHp}
theorem ce_clN {x : Int} (h : 0 ≤ (Int32.ofInt x).toInt) : (Int32.ofInt x).toNatClampNeg = (Int32.ofInt x).toInt.toNat ∧ ¬ Int32.ofInt x < 0 := by
  obtain ⟨j, hj, ej, ejj⟩ := nh_nI h
  refine ⟨by rw [ejj, ej, nI_clamp hj]; omega, fun q => ?_⟩
  have := Int32.lt_iff_toInt_lt.mp q
  rw [show (0 : Int32).toInt = 0 from rfl] at this
  omega
theorem ce_nat_ok (hF : nhFx p c s m args cc nL own D) (hf : 1 ≤ R.frames) (hlo : 60 ≤ R.locals) (hc1 : cn ≤ R.cells) (hc2 : cz ≤ R.slots) {i : Instr} {len : Nat} (hd : decode cc pc = .ok (i, len)) {S' : ceS} (h : ce_nat own pc i len lo st hp = some S')
    (k : ceGo p l e R s m args below meth c Q D ρ B H0 nL cn cz S') : ceGo p l e R s m args below meth c Q D ρ B H0 nL cn cz (pc, lo, st, hp) := by
  intro H locs ls hR
  obtain ⟨hx, hb, hml, ⟨C, hC, hown⟩, hts, hK⟩ := hF
  unfold ce_nat at h
  split at h
  · rename_i idx
    split at h
    · rename_i q hq
      split at h
      · rename_i o r
        split at h
        · rename_i hc
          cases h
          obtain ⟨rfl, hsum⟩ := hc
          have h1 : q.1 = idx := by simpa using List.find?_some hq
          have h2 := nh_rows ceOi_all (List.mem_of_find?_eq_some hq)
          unfold ce_oiB at h2
          rw [hC] at h2
          have h3 := nh_wd_ok h2
          rw [h1] at h3
          have hS8 : ((r.map (ce_c ρ B)).map fun v => v.category).sum ≤ 8 := by rw [ce_sum_ok]; exact hsum
          have hr8 := lv_room (m := m) (pc := pc) (ls := ls) (rest := ((2, o) :: r).map (ce_c ρ B)) hS8
          exact W.objInit hx hb hown (hts _ h3) (hts _ ceOb1) (hts _ ceOb2) rfl (by rw [hml]; exact hR.1) rfl hd hf (Nat.le_trans (Nat.add_le_add_right hr8 12) (by omega)) (k H locs ls hR)
        · cases h
      · cases h
    · cases h
  · rename_i idx
    split at h
    · rename_i q hq
      have h1 : q.1 = idx := by simpa using List.find?_some hq
      have h2 := nh_rows ceSp_all (List.mem_of_find?_eq_some hq)
      unfold ce_spB at h2
      rw [hC] at h2
      simp only [Bool.and_eq_true, decide_eq_true_eq] at h2
      have h3 := nh_wd_ok h2.1
      rw [h1] at h3
      split at h
      · rename_i e0
        rw [e0] at h3
        split at h
        · rename_i n dp a sp a0 r
          split at h
          · rename_i k0 k1 hk0 hk1
            split at h
            · rename_i hc
              cases h
              obtain ⟨rfl, c0, c1, c2, c3, c4, c5, c6, c7, c8, c9, c10, c11⟩ := hc
              have hcell0 := hR.2.2.2.1.2.2 _ _ hk0
              have hcell1 := hR.2.2.2.1.2.2 _ _ hk1
              obtain ⟨t0, ti0, els0⟩ := k0
              obtain ⟨t1, ti1, els1⟩ := k1
              dsimp only at c1 c2 c3 c4 c5 c6 c10 c11
              subst c1 c2 c3 c4
              have toI : ∀ {els : List ceV}, els.all (fun v => v.1 == 0) = true → ∀ j, j < els.length → ce_c ρ B (els.getD j (3, 0)) = .int (Int32.ofInt (els.getD j (3, 0)).2) := by
                intro els hall j hj
                have hm : els.getD j (3, 0) ∈ els := by
                  rw [List.getD_eq_getElem?_getD, List.getElem?_eq_getElem hj]
                  exact List.getElem_mem hj
                have := List.all_eq_true.mp hall _ hm
                generalize els.getD j (3, 0) = v at this ⊢
                obtain ⟨t, x⟩ := v
                have : t = 0 := by simpa using this
                subst this
                rfl
              have hA0 := ce_cellA hcell0
              have hA1 := ce_cellA hcell1
              rw [arrV_cong _ (toI c5)] at hA0
              rw [arrV_cong _ (toI c6)] at hA1
              have hnf : nativeFrameWords "java/lang/System" "arraycopy" 5 + 11 ≤ 52 := by decide
              obtain ⟨l1, n1⟩ := ce_clN c7
              obtain ⟨l2, n2⟩ := ce_clN c8
              obtain ⟨l3, n3⟩ := ce_clN c9
              refine nh_copyW hx hb (by rw [hml]; exact hR.1.symm) hown (hts _ h3) (hts _ ceSp_n) (hts _ ceSp_s0) (hts _ ceSp_i0) ((hK.2 0 .int rfl).1) hA0 hA1 n3 n2 n1 (by rw [l1, l3]; exact c10) (by rw [l1, l2]; exact c11) hf (by rw [ce_sum_ok]; omega) hd (fun H1 L e1 e2 e3 e4 => ?_)
              refine k H1 _ ls ⟨hR.1, hR.2.1, hR.2.2.1, hR.2.2.2.1.put hk1 ?_ e2 e3, fun w hw => ?_⟩
              · show H1[B + a.toNat]? = some (arrV _ _ _)
                rw [e1]
                unfold ce_cpy
                rw [List.length_map, List.length_range]
                congr 1
                refine arrV_cong _ (fun j hj => ?_)
                rw [List.getD_eq_getElem?_getD, List.getElem?_map, List.getElem?_range hj]
                simp only [Option.map_some, Option.getD_some, va_cpy, l1, l2, l3]
                split
                · rw [toI c5 _ (by omega)]
                · rw [toI c6 _ hj]
              · rcases List.mem_append.mp hw with hw | hw
                · exact hR.2.2.2.2 w hw
                · rw [e4 w hw]; omega
            · cases h
          · cases h
        · cases h
      · split at h
        · rename_i e0
          rw [e0] at h3
          split at h
          · rename_i y x r
            split at h
            · rename_i hc
              cases h
              obtain ⟨rfl, c0⟩ := hc
              have k1 := k H locs ls hR
              dsimp only at k1
              rw [List.map_cons, ce_i] at k1
              exact va_mmin hx hb (by rw [hml]; exact hR.1.symm) hown (hts _ h3) (hts _ ceSp_s1) (hts _ ceSp_i1) (hts _ ceSp_c1) hf (by rw [ce_sum_ok]; omega) hc1 hc2 hd k1
            · cases h
          · cases h
        · split at h
          · rename_i e0
            rw [e0] at h3
            split at h
            · rename_i y x r
              split at h
              · rename_i hc
                cases h
                obtain ⟨rfl, c0⟩ := hc
                have k1 := k H locs ls hR
                dsimp only at k1
                rw [List.map_cons, ce_i] at k1
                exact va_mmax hx hb (by rw [hml]; exact hR.1.symm) hown (hts _ h3) (hts _ ceSp_s2) (hts _ ceSp_i1) (hts _ ceSp_c2) hf (by rw [ce_sum_ok]; omega) hc1 hc2 hd k1
              · cases h
            · cases h
          · rename_i d0 d1 d2
            have e0 : q.2.1 = 3 := by omega
            rw [e0] at h3
            split at h
            · rename_i x r
              split at h
              · rename_i hc
                cases h
                obtain ⟨rfl, c0⟩ := hc
                have k1 := k H locs ls hR
                dsimp only at k1
                rw [List.map_cons, ce_i] at k1
                exact va_mabs hx hb (by rw [hml]; exact hR.1.symm) hown (hts _ h3) (hts _ ceSp_s3) (hts _ ceSp_i1) (hts _ ceSp_c3) hf (by rw [ce_sum_ok]; omega) hc1 hc2 hd k1
              · cases h
            · cases h
    · cases h
  · cases h
end CE6
