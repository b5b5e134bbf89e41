/-! methods by program: their names, codes, and the places of their words; the links -/
def nhMt_0 : List nhMth := [(⟨"NightHouses$Land", "clear", "()V"⟩, prog_5_method_2_code, 1, none, false, 0),
  (⟨"NightHouses$Land", "resize", "(II)V"⟩, prog_5_method_3_code, 3, none, false, 2),
  (⟨"NightHouses$Formula", "clear", "()V"⟩, prog_3_method_2_code, 1, none, false, 0),
  (⟨"NightHouses$Land", "finish", "()V"⟩, prog_5_method_6_code, 5, none, false, 0),
  (⟨"NightHouses$Land", "hasHedge", "(I)Z"⟩, prog_5_method_4_code, 2, (some .boolean), false, 1),
  (⟨"NightHouses$Night", "begin", "(LNightHouses$Land;)V"⟩, prog_6_method_2_code, 2, none, false, 1),
  (⟨"java/util/Arrays", "fill", "([II)V"⟩, prog_24_method_103_code, 4, none, true, 2),
  (⟨"NightHouses$Sightings", "forget", "()V"⟩, prog_9_method_2_code, 1, none, false, 0),
  (⟨"NightHouses", "feed", "(IIIII)I"⟩, prog_1_method_2_code, 6, (some .int), false, 5),
  (⟨"NightHouses", "putNumber", "(I)V"⟩, prog_1_method_3_code, 3, none, false, 1),
  (⟨"NightHouses", "end", "(I)I"⟩, prog_1_method_4_code, 2, (some .int), false, 1),
  (⟨"NightHouses", "land", "()I"⟩, prog_1_method_5_code, 2, (some .int), false, 0),
  (⟨"NightHouses$Reader", "begin", "([BILNightHouses$Land;)V"⟩, prog_8_method_2_code, 4, none, false, 3),
  (⟨"NightHouses$Tokens", "begin", "([BI)V"⟩, prog_11_method_2_code, 3, none, false, 2),
  (⟨"NightHouses$Tokens", "advance", "()V"⟩, prog_11_method_6_code, 2, none, false, 0),
  (⟨"NightHouses$Tokens", "byteAt", "(I)I"⟩, prog_11_method_3_code, 2, (some .int), false, 1),
  (⟨"NightHouses$Tokens", "isLetter", "(I)Z"⟩, prog_11_method_4_code, 1, (some .boolean), true, 1),
  (⟨"NightHouses$Tokens", "passLetters", "()V"⟩, prog_11_method_7_code, 1, none, false, 0),
  (⟨"NightHouses$Tokens", "kindOfWord", "()I"⟩, prog_11_method_9_code, 6, (some .int), false, 0),
  (⟨"NightHouses$Tokens", "isDigit", "(I)Z"⟩, prog_11_method_5_code, 1, (some .boolean), true, 1),
  (⟨"NightHouses$Tokens", "passDigits", "()V"⟩, prog_11_method_8_code, 1, none, false, 0),
  (⟨"NightHouses$Reader", "read", "()Z"⟩, prog_8_method_3_code, 3, (some .boolean), false, 0),
  (⟨"NightHouses$Reader", "passFirst", "(Z)Z"⟩, prog_8_method_7_code, 2, (some .boolean), false, 1),
  (⟨"NightHouses$Reader", "pass", "(I)Z"⟩, prog_8_method_6_code, 2, (some .boolean), false, 1),
  (⟨"NightHouses$Reader", "refuseToken", "()Z"⟩, prog_8_method_5_code, 2, (some .boolean), false, 0),
  (⟨"NightHouses$Reader", "refuse", "(II)Z"⟩, prog_8_method_4_code, 3, (some .boolean), false, 2),
  (⟨"NightHouses$Reader", "readSize", "()Z"⟩, prog_8_method_9_code, 2, (some .boolean), false, 0),
  (⟨"NightHouses$Reader", "readNumber", "(II)Z"⟩, prog_8_method_8_code, 3, (some .boolean), false, 2),
  (⟨"NightHouses$Reader", "readHedge", "()Z"⟩, prog_8_method_11_code, 1, (some .boolean), false, 0),
  (⟨"NightHouses$Reader", "readCell", "(Z)Z"⟩, prog_8_method_10_code, 5, (some .boolean), false, 1),
  (⟨"NightHouses$Land", "hasHome", "(I)Z"⟩, prog_5_method_5_code, 3, (some .boolean), false, 1),
  (⟨"NightHouses$Reader", "readHouse", "()Z"⟩, prog_8_method_12_code, 4, (some .boolean), false, 0),
  (⟨"NightHouses$Reader", "readCat", "()Z"⟩, prog_8_method_13_code, 1, (some .boolean), false, 0),
  (⟨"NightHouses$Reader", "readGoes", "()Z"⟩, prog_8_method_14_code, 1, (some .boolean), false, 0),
  (⟨"NightHouses$Reader", "readEither", "(I)Z"⟩, prog_8_method_18_code, 3, (some .boolean), false, 1),
  (⟨"NightHouses$Reader", "readBoth", "(I)Z"⟩, prog_8_method_19_code, 3, (some .boolean), false, 1),
  (⟨"NightHouses$Reader", "readOne", "(I)Z"⟩, prog_8_method_20_code, 3, (some .boolean), false, 1),
  (⟨"NightHouses$Reader", "readNot", "(I)Z"⟩, prog_8_method_21_code, 2, (some .boolean), false, 1),
  (⟨"NightHouses$Formula", "add", "(I)V"⟩, prog_3_method_3_code, 2, none, false, 1),
  (⟨"NightHouses$Reader", "readSum", "(I)Z"⟩, prog_8_method_23_code, 4, (some .boolean), false, 1)]
set_option maxRecDepth 100000 in
theorem nhCd_0 : nhMt_0.map (fun y => Cond.code y.1 y.2.1 y.2.2.1 y.2.2.2.1) = [550, 554, 558, 562, 566, 570, 576, 580, 636, 640, 644, 648, 652, 657, 664, 668, 671, 675, 680, 732, 736, 798, 802, 806, 810, 814, 819, 823, 828, 832, 837, 841, 845, 849, 853, 857, 861, 865, 869, 873].filterMap (fun i => lw_tbl[i]?) := rfl
set_option maxRecDepth 100000 in
theorem nhIw_0 : nhMt_0.map (fun y => Cond.initialized y.1.cls) = [119, 119, 120, 119, 119, 123, 130, 128, 118, 118, 118, 118, 121, 122, 122, 122, 122, 122, 122, 122, 122, 121, 121, 121, 121, 121, 121, 121, 121, 121, 119, 121, 121, 121, 121, 121, 121, 121, 120, 121].filterMap (fun i => lw_tbl[i]?) := rfl
set_option maxRecDepth 100000 in
theorem nhSw_0 : nhMt_0.map (fun y => cond y.2.2.2.2.1 (Cond.static y.1) (Cond.instanceMethod y.1)) = [548, 552, 556, 560, 564, 568, 575, 578, 634, 639, 642, 646, 650, 655, 662, 667, 670, 674, 679, 731, 735, 796, 801, 805, 809, 813, 818, 822, 827, 831, 835, 840, 844, 848, 852, 856, 860, 864, 867, 872].filterMap (fun i => lw_tbl[i]?) := rfl
set_option maxRecDepth 100000 in
theorem nhVw_0 : (nhMt_0.filter (fun y => !y.2.2.2.2.1)).map (fun y => Cond.selects y.1.cls y.1 y.1) = [549, 553, 557, 561, 565, 569, 579, 635, 0, 643, 647, 651, 656, 663, 1, 2, 3, 4, 797, 5, 6, 7, 8, 9, 10, 11, 12, 836, 13, 14, 15, 16, 17, 18, 19, 868, 20].filterMap (fun i => lw_tbl[i]?) := rfl
set_option maxRecDepth 100000 in
theorem nhDs_0 : nhMt_0.all (fun y => decide (y.1.cls ≠ "java/lang/invoke/MethodHandle" ∧ y.1.cls ≠ "java/lang/invoke/VarHandle" ∧ (parseMethodDescriptor y.1.desc).map (fun d => d.parameters.length) = some y.2.2.2.2.2) && plainName y.1.cls) = true := by decide +kernel
def nhMt_1 : List nhMth := [(⟨"NightHouses$Reader", "readTerm", "(I)Z"⟩, prog_8_method_24_code, 4, (some .boolean), false, 1),
  (⟨"NightHouses$Reader", "readUnit", "(I)Z"⟩, prog_8_method_26_code, 6, (some .boolean), false, 1),
  (⟨"NightHouses$Reader", "factOf", "(I)I"⟩, prog_8_method_27_code, 1, (some .int), true, 1),
  (⟨"NightHouses$Reader", "foldOf", "(I)I"⟩, prog_8_method_25_code, 1, (some .int), true, 1),
  (⟨"NightHouses$Reader", "relationOf", "(I)I"⟩, prog_8_method_22_code, 1, (some .int), true, 1),
  (⟨"NightHouses$Reader", "readCalls", "()Z"⟩, prog_8_method_15_code, 1, (some .boolean), false, 0),
  (⟨"NightHouses$Reader", "readGale", "()Z"⟩, prog_8_method_16_code, 1, (some .boolean), false, 0),
  (⟨"NightHouses$Reader", "readDraw", "()Z"⟩, prog_8_method_17_code, 1, (some .boolean), false, 0),
  (⟨"NightHouses$History", "clear", "()V"⟩, prog_4_method_2_code, 1, none, false, 0),
  (⟨"NightHouses", "fault", "(I)I"⟩, prog_1_method_6_code, 2, (some .int), false, 1),
  (⟨"NightHouses", "house", "(II)I"⟩, prog_1_method_7_code, 3, (some .int), false, 2),
  (⟨"NightHouses", "isHouse", "(I)Z"⟩, prog_1_method_57_code, 2, (some .boolean), false, 1),
  (⟨"NightHouses$Steps", "nextWay", "(LNightHouses$Land;LNightHouses$Night;I)I"⟩, prog_10_method_7_code, 4, (some .int), true, 3),
  (⟨"NightHouses$Land", "columnAt", "(I)I"⟩, prog_5_method_8_code, 2, (some .int), false, 1),
  (⟨"NightHouses$Land", "rowAt", "(I)I"⟩, prog_5_method_9_code, 2, (some .int), false, 1),
  (⟨"NightHouses$Formula", "setPlace", "(III)V"⟩, prog_3_method_4_code, 4, none, false, 3),
  (⟨"NightHouses$Formula", "setTimes", "(III)V"⟩, prog_3_method_5_code, 4, none, false, 3),
  (⟨"NightHouses$Formula", "worth", "()I"⟩, prog_3_method_6_code, 4, (some .int), false, 0),
  (⟨"NightHouses$Formula", "join", "(III)I"⟩, prog_3_method_7_code, 3, (some .int), true, 3),
  (⟨"NightHouses", "housesAt", "(I)I"⟩, prog_1_method_62_code, 4, (some .int), false, 1),
  (⟨"NightHouses", "spot", "(II)I"⟩, prog_1_method_8_code, 3, (some .int), false, 2),
  (⟨"NightHouses", "isCell", "(I)Z"⟩, prog_1_method_59_code, 2, (some .boolean), false, 1),
  (⟨"NightHouses$Night", "hasHedge", "(I)Z"⟩, prog_6_method_4_code, 2, (some .boolean), false, 1),
  (⟨"NightHouses$Land", "far", "(II)I"⟩, prog_5_method_10_code, 3, (some .int), false, 2),
  (⟨"NightHouses", "about", "(I)I"⟩, prog_1_method_9_code, 2, (some .int), false, 1),
  (⟨"java/lang/Long", "bitCount", "(J)I"⟩, prog_17_method_50_code, 2, (some .int), true, 1),
  (⟨"NightHouses", "aboutKept", "(I)I"⟩, prog_1_method_10_code, 2, (some .int), false, 1),
  (⟨"NightHouses", "lies", "(I)I"⟩, prog_1_method_11_code, 2, (some .int), false, 1),
  (⟨"NightHouses", "hear", "()I"⟩, prog_1_method_12_code, 3, (some .int), false, 0),
  (⟨"NightHouses$Steps", "hears", "(LNightHouses$Land;LNightHouses$Night;II)Z"⟩, prog_10_method_6_code, 4, (some .boolean), true, 4),
  (⟨"NightHouses", "law", "(I)I"⟩, prog_1_method_13_code, 4, (some .int), false, 1),
  (⟨"NightHouses", "home", "()I"⟩, prog_1_method_14_code, 1, (some .int), false, 0),
  (⟨"NightHouses$Steps", "atHome", "(LNightHouses$Land;LNightHouses$Night;)I"⟩, prog_10_method_5_code, 4, (some .int), true, 2),
  (⟨"NightHouses", "tilted", "()I"⟩, prog_1_method_15_code, 3, (some .int), false, 0),
  (⟨"NightHouses", "odds", "(II)I"⟩, prog_1_method_16_code, 6, (some .int), false, 2),
  (⟨"NightHouses", "commonDivisor", "(II)I"⟩, prog_1_method_17_code, 6, (some .int), true, 2),
  (⟨"NightHouses", "step", "(Z)I"⟩, prog_1_method_18_code, 2, (some .int), false, 1),
  (⟨"NightHouses$History", "keep", "(LNightHouses$Night;)V"⟩, prog_4_method_4_code, 2, none, false, 1),
  (⟨"NightHouses$History", "current", "()LNightHouses$Night;"⟩, prog_4_method_3_code, 1, (some (.object "NightHouses$Night")), false, 0),
  (⟨"NightHouses$Night", "copy", "(LNightHouses$Night;)V"⟩, prog_6_method_3_code, 2, none, false, 1)]
set_option maxRecDepth 100000 in
theorem nhCd_1 : nhMt_1.map (fun y => Cond.code y.1 y.2.1 y.2.2.1 y.2.2.2.1) = [877, 881, 884, 887, 890, 894, 898, 902, 906, 910, 914, 918, 921, 925, 929, 933, 937, 941, 944, 951, 955, 959, 963, 967, 976, 979, 986, 990, 994, 997, 1002, 1006, 1009, 1013, 1017, 1020, 1024, 1028, 1032, 1036].filterMap (fun i => lw_tbl[i]?) := rfl
set_option maxRecDepth 100000 in
theorem nhIw_1 : nhMt_1.map (fun y => Cond.initialized y.1.cls) = [121, 121, 121, 121, 121, 121, 121, 121, 124, 118, 118, 118, 138, 119, 119, 120, 120, 120, 120, 118, 118, 118, 123, 119, 118, 140, 118, 118, 118, 138, 118, 118, 138, 118, 118, 118, 118, 124, 124, 123].filterMap (fun i => lw_tbl[i]?) := rfl
set_option maxRecDepth 100000 in
theorem nhSw_1 : nhMt_1.map (fun y => cond y.2.2.2.2.1 (Cond.static y.1) (Cond.instanceMethod y.1)) = [876, 880, 883, 886, 889, 893, 897, 901, 904, 908, 912, 917, 920, 923, 927, 931, 935, 939, 943, 950, 953, 958, 961, 965, 974, 978, 985, 988, 992, 996, 1000, 1004, 1008, 1011, 1015, 1019, 1022, 1026, 1031, 1034].filterMap (fun i => lw_tbl[i]?) := rfl
set_option maxRecDepth 100000 in
theorem nhVw_1 : (nhMt_1.filter (fun y => !y.2.2.2.2.1)).map (fun y => Cond.selects y.1.cls y.1 y.1) = [21, 22, 23, 24, 25, 905, 909, 913, 26, 924, 928, 932, 936, 940, 27, 954, 28, 962, 966, 975, 29, 989, 993, 1001, 1005, 1012, 1016, 1023, 1027, 30, 1035].filterMap (fun i => lw_tbl[i]?) := rfl
set_option maxRecDepth 100000 in
theorem nhDs_1 : nhMt_1.all (fun y => decide (y.1.cls ≠ "java/lang/invoke/MethodHandle" ∧ y.1.cls ≠ "java/lang/invoke/VarHandle" ∧ (parseMethodDescriptor y.1.desc).map (fun d => d.parameters.length) = some y.2.2.2.2.2) && plainName y.1.cls) = true := by decide +kernel
def nhMt_2 : List nhMth := [(⟨"NightHouses$Steps", "take", "(LNightHouses$Land;LNightHouses$Night;IZ)V"⟩, prog_10_method_2_code, 5, none, true, 4),
  (⟨"NightHouses$Steps", "cellCalledTo", "(LNightHouses$Land;LNightHouses$Night;I)I"⟩, prog_10_method_8_code, 7, (some .int), true, 3),
  (⟨"NightHouses$Land", "goal", "(JII)I"⟩, prog_5_method_7_code, 6, (some .int), false, 3),
  (⟨"NightHouses$Steps", "quarrel", "(LNightHouses$Land;LNightHouses$Night;)V"⟩, prog_10_method_3_code, 4, none, true, 2),
  (⟨"NightHouses$Steps", "together", "(LNightHouses$Land;LNightHouses$Night;)I"⟩, prog_10_method_4_code, 5, (some .int), true, 2),
  (⟨"NightHouses", "walk", "(I)I"⟩, prog_1_method_19_code, 3, (some .int), false, 1),
  (⟨"NightHouses", "dawn", "()I"⟩, prog_1_method_20_code, 3, (some .int), false, 0),
  (⟨"NightHouses", "hedge", "(I)I"⟩, prog_1_method_21_code, 2, (some .int), false, 1),
  (⟨"NightHouses", "isBare", "(I)Z"⟩, prog_1_method_60_code, 2, (some .boolean), false, 1),
  (⟨"NightHouses", "cut", "(I)I"⟩, prog_1_method_22_code, 2, (some .int), false, 1),
  (⟨"NightHouses", "undo", "()Z"⟩, prog_1_method_23_code, 1, (some .boolean), false, 0),
  (⟨"NightHouses$History", "takeBack", "(LNightHouses$Night;)Z"⟩, prog_4_method_5_code, 2, (some .boolean), false, 1),
  (⟨"NightHouses", "redo", "()Z"⟩, prog_1_method_24_code, 1, (some .boolean), false, 0),
  (⟨"NightHouses$History", "doAgain", "(LNightHouses$Night;)Z"⟩, prog_4_method_6_code, 2, (some .boolean), false, 1),
  (⟨"NightHouses", "image", "(I)I"⟩, prog_1_method_25_code, 2, (some .int), false, 1),
  (⟨"NightHouses", "restore", "(I)I"⟩, prog_1_method_26_code, 2, (some .int), false, 1),
  (⟨"NightHouses", "will", "(III)I"⟩, prog_1_method_27_code, 4, (some .int), false, 3),
  (⟨"NightHouses", "tryAhead", "(IIZ)V"⟩, prog_1_method_63_code, 4, none, false, 3),
  (⟨"NightHouses", "goOn", "(IIZ)V"⟩, prog_1_method_64_code, 5, none, false, 3),
  (⟨"NightHouses", "back", "(I)I"⟩, prog_1_method_28_code, 3, (some .int), false, 1),
  (⟨"NightHouses", "meet", "(II)I"⟩, prog_1_method_29_code, 4, (some .int), false, 2),
  (⟨"NightHouses", "arePair", "(II)Z"⟩, prog_1_method_58_code, 3, (some .boolean), false, 2),
  (⟨"NightHouses", "plan", "(II)I"⟩, prog_1_method_30_code, 4, (some .int), false, 2),
  (⟨"NightHouses$Planner", "fewestCalls", "(LNightHouses$Land;LNightHouses$Night;II)I"⟩, prog_7_method_2_code, 5, (some .int), false, 4),
  (⟨"NightHouses$Planner", "seek", "(II)V"⟩, prog_7_method_3_code, 4, none, false, 2),
  (⟨"NightHouses$Planner", "seekBehind", "(IIZ)V"⟩, prog_7_method_4_code, 4, none, false, 3),
  (⟨"NightHouses$Planner", "someoneHears", "(LNightHouses$Night;)Z"⟩, prog_7_method_5_code, 3, (some .boolean), false, 1),
  (⟨"NightHouses", "fence", "(III)I"⟩, prog_1_method_31_code, 5, (some .int), false, 3),
  (⟨"NightHouses", "bareCells", "()J"⟩, prog_1_method_61_code, 4, (some .long), false, 0),
  (⟨"NightHouses$Fencer", "fewestHedges", "(LNightHouses$Land;LNightHouses$Night;IIIJ)I"⟩, prog_2_method_2_code, 10, (some .int), false, 6),
  (⟨"NightHouses$Fencer", "cellsEntered", "(J)J"⟩, prog_2_method_7_code, 7, (some .long), false, 1),
  (⟨"NightHouses$Fencer", "findOne", "(J)Z"⟩, prog_2_method_3_code, 4, (some .boolean), false, 1),
  (⟨"NightHouses$Fencer", "has", "(JI)Z"⟩, prog_2_method_6_code, 3, (some .boolean), true, 2),
  (⟨"NightHouses$Fencer", "findTwo", "(JJ)Z"⟩, prog_2_method_4_code, 7, (some .boolean), false, 2),
  (⟨"NightHouses$Fencer", "canDiffer", "(JII)Z"⟩, prog_2_method_5_code, 7, (some .boolean), false, 3),
  (⟨"NightHouses", "post", "(II)I"⟩, prog_1_method_32_code, 7, (some .int), false, 2),
  (⟨"java/lang/Integer", "bitCount", "(I)I"⟩, prog_16_method_49_code, 1, (some .int), true, 1),
  (⟨"NightHouses", "bell", "(II)I"⟩, prog_1_method_33_code, 7, (some .int), false, 2),
  (⟨"NightHouses", "haunt", "(I)I"⟩, prog_1_method_34_code, 3, (some .int), false, 1),
  (⟨"NightHouses$Walks", "clearCounts", "()V"⟩, prog_12_method_6_code, 1, none, false, 0)]
set_option maxRecDepth 100000 in
theorem nhCd_2 : nhMt_2.map (fun y => Cond.code y.1 y.2.1 y.2.2.1 y.2.2.2.1) = [1039, 1043, 1047, 1051, 1054, 1059, 1064, 1068, 1072, 1076, 1081, 1085, 1089, 1093, 1097, 1102, 1106, 1110, 1114, 1118, 1122, 1126, 1130, 1134, 1140, 1146, 1151, 1157, 1161, 1165, 1169, 1176, 1179, 1183, 1187, 1191, 1194, 1201, 1205, 1209].filterMap (fun i => lw_tbl[i]?) := rfl
set_option maxRecDepth 100000 in
theorem nhIw_2 : nhMt_2.map (fun y => Cond.initialized y.1.cls) = [138, 138, 119, 138, 138, 118, 118, 118, 118, 118, 118, 124, 118, 124, 118, 118, 118, 118, 118, 118, 118, 118, 118, 126, 126, 126, 126, 118, 118, 127, 127, 127, 127, 127, 127, 118, 141, 118, 118, 125].filterMap (fun i => lw_tbl[i]?) := rfl
set_option maxRecDepth 100000 in
theorem nhSw_2 : nhMt_2.map (fun y => cond y.2.2.2.2.1 (Cond.static y.1) (Cond.instanceMethod y.1)) = [1038, 1042, 1045, 1050, 1053, 1057, 1062, 1066, 1071, 1074, 1079, 1083, 1087, 1091, 1095, 1100, 1104, 1109, 1113, 1116, 1120, 1125, 1128, 1132, 1139, 1145, 1150, 1155, 1160, 1163, 1168, 1175, 1178, 1182, 1186, 1189, 1193, 1199, 1203, 1207].filterMap (fun i => lw_tbl[i]?) := rfl
set_option maxRecDepth 100000 in
theorem nhVw_2 : (nhMt_2.filter (fun y => !y.2.2.2.2.1)).map (fun y => Cond.selects y.1.cls y.1 y.1) = [1046, 1058, 1063, 1067, 31, 1075, 1080, 1084, 1088, 1092, 1096, 1101, 1105, 32, 33, 1117, 1121, 34, 1129, 1133, 35, 36, 37, 1156, 38, 1164, 39, 40, 41, 42, 1190, 1200, 1204, 1208].filterMap (fun i => lw_tbl[i]?) := rfl
set_option maxRecDepth 100000 in
theorem nhDs_2 : nhMt_2.all (fun y => decide (y.1.cls ≠ "java/lang/invoke/MethodHandle" ∧ y.1.cls ≠ "java/lang/invoke/VarHandle" ∧ (parseMethodDescriptor y.1.desc).map (fun d => d.parameters.length) = some y.2.2.2.2.2) && plainName y.1.cls) = true := by decide +kernel
def nhMt_3 : List nhMth := [(⟨"NightHouses$Walks", "countHouses", "(LNightHouses$Land;LNightHouses$Night;)V"⟩, prog_12_method_7_code, 5, none, false, 2),
  (⟨"NightHouses$Walks", "isCell", "(I)Z"⟩, prog_12_method_4_code, 1, (some .boolean), true, 1),
  (⟨"NightHouses$Walks", "mostCounted", "(LNightHouses$Land;)I"⟩, prog_12_method_8_code, 4, (some .int), false, 1),
  (⟨"NightHouses", "gather", "(I)I"⟩, prog_1_method_35_code, 2, (some .int), false, 1),
  (⟨"NightHouses", "stray", "(II)I"⟩, prog_1_method_36_code, 5, (some .int), false, 2),
  (⟨"NightHouses", "homely", "(IZ)I"⟩, prog_1_method_37_code, 3, (some .int), false, 2),
  (⟨"NightHouses", "quarrels", "(I)I"⟩, prog_1_method_38_code, 4, (some .int), false, 1),
  (⟨"NightHouses", "way", "(I)I"⟩, prog_1_method_39_code, 2, (some .int), false, 1),
  (⟨"NightHouses$Walks", "spread", "(LNightHouses$Land;JI)V"⟩, prog_12_method_2_code, 8, none, false, 3),
  (⟨"NightHouses$Walks", "reach", "(II)V"⟩, prog_12_method_3_code, 3, none, false, 2),
  (⟨"NightHouses$Walks", "lengthTo", "(I)I"⟩, prog_12_method_5_code, 2, (some .int), false, 1),
  (⟨"NightHouses", "realm", "()I"⟩, prog_1_method_40_code, 1, (some .int), false, 0),
  (⟨"NightHouses", "fetch", "()I"⟩, prog_1_method_41_code, 6, (some .int), false, 0),
  (⟨"NightHouses", "lost", "()I"⟩, prog_1_method_42_code, 3, (some .int), false, 0),
  (⟨"NightHouses", "suits", "(I)I"⟩, prog_1_method_43_code, 6, (some .int), false, 1),
  (⟨"NightHouses", "chase", "(III)I"⟩, prog_1_method_44_code, 10, (some .int), false, 3),
  (⟨"NightHouses", "nearestChase", "(III)I"⟩, prog_1_method_46_code, 7, (some .int), false, 3),
  (⟨"NightHouses", "farthestFlight", "(III)I"⟩, prog_1_method_45_code, 7, (some .int), false, 3),
  (⟨"NightHouses", "swap", "(I)I"⟩, prog_1_method_47_code, 7, (some .int), false, 1),
  (⟨"NightHouses", "atHomeExchanged", "(II)I"⟩, prog_1_method_48_code, 6, (some .int), false, 2),
  (⟨"NightHouses", "ofPair", "(III)I"⟩, prog_1_method_50_code, 3, (some .int), true, 3),
  (⟨"NightHouses", "closest", "(I)I"⟩, prog_1_method_49_code, 7, (some .int), false, 1),
  (⟨"NightHouses", "seen", "(IIZ)I"⟩, prog_1_method_51_code, 4, (some .int), false, 3),
  (⟨"NightHouses$Sightings", "tell", "(IIZI)I"⟩, prog_9_method_3_code, 5, (some .int), false, 4),
  (⟨"NightHouses", "untell", "(I)Z"⟩, prog_1_method_52_code, 2, (some .boolean), false, 1),
  (⟨"NightHouses$Sightings", "takeAway", "(II)Z"⟩, prog_9_method_4_code, 3, (some .boolean), false, 2),
  (⟨"NightHouses", "later", "(I)I"⟩, prog_1_method_53_code, 2, (some .int), false, 1),
  (⟨"NightHouses", "fits", "(I)I"⟩, prog_1_method_54_code, 2, (some .int), false, 1),
  (⟨"NightHouses$Sightings", "fitting", "(LNightHouses$Land;I)J"⟩, prog_9_method_8_code, 6, (some .long), false, 2),
  (⟨"NightHouses$Sightings", "makeTracks", "(LNightHouses$Land;)V"⟩, prog_9_method_6_code, 5, none, false, 1),
  (⟨"NightHouses$Sightings", "isKnown", "(II)Z"⟩, prog_9_method_5_code, 4, (some .boolean), false, 2),
  (⟨"NightHouses$Sightings", "agreeing", "(LNightHouses$Land;I)J"⟩, prog_9_method_9_code, 7, (some .long), false, 2),
  (⟨"NightHouses$Sightings", "cellBehind", "(II)I"⟩, prog_9_method_7_code, 4, (some .int), false, 2),
  (⟨"NightHouses", "sure", "(II)I"⟩, prog_1_method_55_code, 5, (some .int), false, 2),
  (⟨"java/lang/Long", "numberOfTrailingZeros", "(J)I"⟩, prog_17_method_49_code, 3, (some .int), true, 1),
  (⟨"java/lang/Integer", "numberOfTrailingZeros", "(I)I"⟩, prog_16_method_48_code, 2, (some .int), true, 1),
  (⟨"java/lang/Long", "numberOfLeadingZeros", "(J)I"⟩, prog_17_method_48_code, 3, (some .int), true, 1),
  (⟨"java/lang/Integer", "numberOfLeadingZeros", "(I)I"⟩, prog_16_method_47_code, 2, (some .int), true, 1),
  (⟨"NightHouses", "ask", "(II)I"⟩, prog_1_method_56_code, 9, (some .int), false, 2),
  (⟨"NightHouses$Sightings", "mostLeft", "(LNightHouses$Land;JI)I"⟩, prog_9_method_10_code, 8, (some .int), false, 3)]
set_option maxRecDepth 100000 in
theorem nhCd_3 : nhMt_3.map (fun y => Cond.code y.1 y.2.1 y.2.2.1 y.2.2.2.1) = [1214, 1217, 1221, 1225, 1229, 1234, 1238, 1242, 1246, 1250, 1254, 1260, 1264, 1268, 1272, 1276, 1280, 1284, 1289, 1293, 1296, 1300, 1304, 1308, 1312, 1316, 1320, 1325, 1329, 1333, 1340, 1344, 1348, 1352, 1355, 1358, 1362, 1365, 1369, 1373].filterMap (fun i => lw_tbl[i]?) := rfl
set_option maxRecDepth 100000 in
theorem nhIw_3 : nhMt_3.map (fun y => Cond.initialized y.1.cls) = [125, 125, 125, 118, 118, 118, 118, 118, 125, 125, 125, 118, 118, 118, 118, 118, 118, 118, 118, 118, 118, 118, 118, 128, 118, 128, 118, 118, 128, 128, 128, 128, 128, 118, 140, 141, 140, 141, 118, 128].filterMap (fun i => lw_tbl[i]?) := rfl
set_option maxRecDepth 100000 in
theorem nhSw_3 : nhMt_3.map (fun y => cond y.2.2.2.2.1 (Cond.static y.1) (Cond.instanceMethod y.1)) = [1212, 1216, 1219, 1223, 1227, 1232, 1236, 1240, 1244, 1249, 1252, 1258, 1262, 1266, 1270, 1274, 1279, 1283, 1287, 1292, 1295, 1298, 1302, 1306, 1310, 1314, 1318, 1323, 1327, 1332, 1339, 1343, 1347, 1350, 1354, 1357, 1361, 1364, 1367, 1371].filterMap (fun i => lw_tbl[i]?) := rfl
set_option maxRecDepth 100000 in
theorem nhVw_3 : (nhMt_3.filter (fun y => !y.2.2.2.2.1)).map (fun y => Cond.selects y.1.cls y.1 y.1) = [1213, 1220, 1224, 1228, 1233, 1237, 1241, 1245, 43, 1253, 1259, 1263, 1267, 1271, 1275, 44, 45, 1288, 46, 1299, 1303, 1307, 1311, 1315, 1319, 1324, 1328, 47, 48, 49, 50, 1351, 1368, 1372].filterMap (fun i => lw_tbl[i]?) := rfl
set_option maxRecDepth 100000 in
theorem nhDs_3 : nhMt_3.all (fun y => decide (y.1.cls ≠ "java/lang/invoke/MethodHandle" ∧ y.1.cls ≠ "java/lang/invoke/VarHandle" ∧ (parseMethodDescriptor y.1.desc).map (fun d => d.parameters.length) = some y.2.2.2.2.2) && plainName y.1.cls) = true := by decide +kernel
def nhMt_4 : List nhMth := [(⟨"NightHousesModel", "clearBank", "()V"⟩, prog_14_method_15_code, 1, none, false, 0),
  (⟨"NightHousesModel", "startAnew", "()V"⟩, prog_14_method_50_code, 2, none, false, 0),
  (⟨"NightHousesModel", "layTold", "()V"⟩, prog_14_method_51_code, 2, none, false, 0),
  (⟨"NightHousesModel", "many", "()I"⟩, prog_14_method_44_code, 1, (some .int), false, 0),
  (⟨"NightHousesModel", "homeOf", "(I)I"⟩, prog_14_method_48_code, 2, (some .int), false, 1),
  (⟨"NightHousesModel", "land", "()I"⟩, prog_14_method_16_code, 2, (some .int), false, 0),
  (⟨"NightHousesModel", "goOn", "()V"⟩, prog_14_method_9_code, 3, none, false, 0),
  (⟨"NightHousesModel", "sign", "(I)I"⟩, prog_14_method_2_code, 2, (some .int), false, 1),
  (⟨"NightHousesModel", "isLetter", "(I)Z"⟩, prog_14_method_3_code, 1, (some .boolean), true, 1),
  (⟨"NightHousesModel", "isKept", "(J)Z"⟩, prog_14_method_7_code, 3, (some .boolean), true, 1),
  (⟨"NightHousesModel", "isDigit", "(I)Z"⟩, prog_14_method_4_code, 1, (some .boolean), true, 1),
  (⟨"NightHousesModel", "isSign", "(I)Z"⟩, prog_14_method_8_code, 1, (some .boolean), true, 1),
  (⟨"NightHousesModel", "isGood", "()Z"⟩, prog_14_method_6_code, 1, (some .boolean), false, 0),
  (⟨"NightHousesModel", "readLine", "()V"⟩, prog_14_method_22_code, 3, none, false, 0),
  (⟨"NightHousesModel", "isFull", "()Z"⟩, prog_14_method_20_code, 1, (some .boolean), false, 0),
  (⟨"NightHousesModel", "isWord", "(J)Z"⟩, prog_14_method_11_code, 3, (some .boolean), false, 1),
  (⟨"NightHousesModel", "bit", "(II)Z"⟩, prog_14_method_40_code, 2, (some .boolean), true, 2),
  (⟨"NightHousesModel", "misplaced", "()V"⟩, prog_14_method_12_code, 1, none, false, 0),
  (⟨"NightHousesModel", "fails", "(II)V"⟩, prog_14_method_5_code, 3, none, false, 2),
  (⟨"NightHousesModel", "numeral", "(II)I"⟩, prog_14_method_14_code, 4, (some .int), false, 2),
  (⟨"NightHousesModel", "must", "(Z)V"⟩, prog_14_method_13_code, 2, none, false, 1),
  (⟨"NightHousesModel", "readCell", "(Z)I"⟩, prog_14_method_23_code, 6, (some .int), false, 1),
  (⟨"NightHousesModel", "isHedgeTold", "(I)Z"⟩, prog_14_method_17_code, 3, (some .boolean), false, 1),
  (⟨"NightHousesModel", "isHouseTold", "(I)Z"⟩, prog_14_method_18_code, 3, (some .boolean), false, 1),
  (⟨"NightHousesModel", "readHouse", "()V"⟩, prog_14_method_24_code, 3, none, false, 0),
  (⟨"NightHousesModel", "readRule", "()V"⟩, prog_14_method_25_code, 1, none, false, 0),
  (⟨"NightHousesModel", "e", "()V"⟩, prog_14_method_28_code, 2, none, false, 0),
  (⟨"NightHousesModel", "pushE", "(II)V"⟩, prog_14_method_27_code, 3, none, false, 2),
  (⟨"NightHousesModel", "unit", "()Z"⟩, prog_14_method_30_code, 7, (some .boolean), false, 0),
  (⟨"NightHousesModel", "isSignHere", "(I)Z"⟩, prog_14_method_10_code, 2, (some .boolean), false, 1),
  (⟨"NightHousesModel", "wordHere", "()I"⟩, prog_14_method_29_code, 1, (some .int), false, 0),
  (⟨"NightHousesModel", "emit", "(II)V"⟩, prog_14_method_26_code, 3, none, false, 2),
  (⟨"NightHousesModel", "behindUnit", "()Z"⟩, prog_14_method_33_code, 2, (some .boolean), false, 0),
  (⟨"NightHousesModel", "rankHere", "()I"⟩, prog_14_method_31_code, 1, (some .int), false, 0),
  (⟨"NightHousesModel", "isCompared", "()Z"⟩, prog_14_method_32_code, 2, (some .boolean), false, 0),
  (⟨"NightHousesModel", "once", "(II)I"⟩, prog_14_method_21_code, 3, (some .int), false, 2),
  (⟨"NightHousesModel", "firstFree", "()I"⟩, prog_14_method_19_code, 2, (some .int), false, 0),
  (⟨"NightHousesModel", "fault", "(I)I"⟩, prog_14_method_37_code, 2, (some .int), false, 1),
  (⟨"NightHousesModel", "house", "(II)I"⟩, prog_14_method_64_code, 3, (some .int), false, 2),
  (⟨"NightHousesModel", "isHouse", "(I)Z"⟩, prog_14_method_46_code, 2, (some .boolean), false, 1)]
set_option maxRecDepth 100000 in
theorem nhCd_4 : nhMt_4.map (fun y => Cond.code y.1 y.2.1 y.2.2.1 y.2.2.2.1) = [1385, 1389, 1393, 1397, 1401, 1598, 1602, 1606, 1609, 1612, 1634, 1637, 1641, 1645, 1649, 1653, 1656, 1660, 1664, 1668, 1672, 1676, 1680, 1684, 1688, 1692, 1696, 1700, 1704, 1708, 1712, 1716, 1720, 1724, 1728, 1732, 1736, 1740, 1744, 1748].filterMap (fun i => lw_tbl[i]?) := rfl
set_option maxRecDepth 100000 in
theorem nhIw_4 : nhMt_4.map (fun y => Cond.initialized y.1.cls) = [131, 131, 131, 131, 131, 131, 131, 131, 131, 131, 131, 131, 131, 131, 131, 131, 131, 131, 131, 131, 131, 131, 131, 131, 131, 131, 131, 131, 131, 131, 131, 131, 131, 131, 131, 131, 131, 131, 131, 131].filterMap (fun i => lw_tbl[i]?) := rfl
set_option maxRecDepth 100000 in
theorem nhSw_4 : nhMt_4.map (fun y => cond y.2.2.2.2.1 (Cond.static y.1) (Cond.instanceMethod y.1)) = [1384, 1388, 1392, 1396, 1400, 1596, 1601, 1605, 1608, 1611, 1633, 1636, 1640, 1644, 1648, 1652, 1655, 1659, 1663, 1667, 1671, 1675, 1679, 1683, 1687, 1691, 1695, 1699, 1703, 1707, 1711, 1715, 1719, 1723, 1727, 1731, 1735, 1738, 1742, 1747].filterMap (fun i => lw_tbl[i]?) := rfl
set_option maxRecDepth 100000 in
theorem nhVw_4 : (nhMt_4.filter (fun y => !y.2.2.2.2.1)).map (fun y => Cond.selects y.1.cls y.1 y.1) = [51, 52, 53, 54, 55, 1597, 56, 57, 58, 59, 60, 61, 62, 63, 64, 65, 66, 67, 68, 69, 70, 71, 72, 73, 74, 75, 76, 77, 78, 79, 80, 81, 1739, 1743, 82].filterMap (fun i => lw_tbl[i]?) := rfl
set_option maxRecDepth 100000 in
theorem nhDs_4 : nhMt_4.all (fun y => decide (y.1.cls ≠ "java/lang/invoke/MethodHandle" ∧ y.1.cls ≠ "java/lang/invoke/VarHandle" ∧ (parseMethodDescriptor y.1.desc).map (fun d => d.parameters.length) = some y.2.2.2.2.2) && plainName y.1.cls) = true := by decide +kernel
def nhMt_5 : List nhMth := [(⟨"NightHousesModel", "isIn", "(III)Z"⟩, prog_14_method_38_code, 3, (some .boolean), true, 3),
  (⟨"NightHousesModel", "wayOf", "(I)I"⟩, prog_14_method_54_code, 3, (some .int), false, 1),
  (⟨"NightHousesModel", "comes", "()I"⟩, prog_14_method_36_code, 4, (some .int), false, 0),
  (⟨"NightHousesModel", "asked", "(II)I"⟩, prog_14_method_35_code, 3, (some .int), false, 2),
  (⟨"NightHousesModel", "two", "(III)I"⟩, prog_14_method_34_code, 3, (some .int), true, 3),
  (⟨"NightHousesModel", "housesAt", "(I)I"⟩, prog_14_method_56_code, 4, (some .int), false, 1),
  (⟨"NightHousesModel", "spot", "(II)I"⟩, prog_14_method_65_code, 3, (some .int), false, 2),
  (⟨"NightHousesModel", "isSpot", "(I)Z"⟩, prog_14_method_47_code, 2, (some .boolean), false, 1),
  (⟨"NightHousesModel", "spots", "()I"⟩, prog_14_method_45_code, 1, (some .int), false, 0),
  (⟨"NightHousesModel", "farOf", "(II)I"⟩, prog_14_method_52_code, 3, (some .int), false, 2),
  (⟨"NightHousesModel", "absolute", "(I)I"⟩, prog_14_method_39_code, 1, (some .int), true, 1),
  (⟨"NightHousesModel", "hear", "()I"⟩, prog_14_method_66_code, 1, (some .int), false, 0),
  (⟨"NightHousesModel", "hearBy", "(I)I"⟩, prog_14_method_58_code, 4, (some .int), false, 1),
  (⟨"NightHousesModel", "law", "(I)I"⟩, prog_14_method_67_code, 2, (some .int), false, 1),
  (⟨"NightHousesModel", "bitsOf", "(I)I"⟩, prog_14_method_41_code, 3, (some .int), true, 1),
  (⟨"NightHousesModel", "home", "()I"⟩, prog_14_method_68_code, 1, (some .int), false, 0),
  (⟨"NightHousesModel", "homeNow", "()I"⟩, prog_14_method_57_code, 3, (some .int), false, 0),
  (⟨"NightHousesModel", "tilted", "()I"⟩, prog_14_method_69_code, 3, (some .int), false, 0),
  (⟨"NightHousesModel", "suits", "(I)I"⟩, prog_14_method_70_code, 4, (some .int), false, 1),
  (⟨"NightHousesModel", "goBy", "(II)I"⟩, prog_14_method_53_code, 6, (some .int), false, 2),
  (⟨"NightHousesModel", "closest", "(I)I"⟩, prog_14_method_71_code, 7, (some .int), false, 1),
  (⟨"NightHousesModel", "swap", "(I)I"⟩, prog_14_method_73_code, 8, (some .int), false, 1),
  (⟨"NightHousesModel", "exchange", "(II)V"⟩, prog_14_method_72_code, 4, none, false, 2),
  (⟨"NightHousesModel", "step", "(Z)I"⟩, prog_14_method_76_code, 2, (some .int), false, 1),
  (⟨"NightHousesModel", "keepAct", "()V"⟩, prog_14_method_74_code, 2, none, false, 0),
  (⟨"NightHousesModel", "goInEarnest", "(Z)I"⟩, prog_14_method_63_code, 3, (some .int), false, 1),
  (⟨"NightHousesModel", "goAll", "(Z)V"⟩, prog_14_method_60_code, 4, none, false, 1),
  (⟨"NightHousesModel", "comeTo", "(II)I"⟩, prog_14_method_55_code, 6, (some .int), false, 2),
  (⟨"NightHousesModel", "endStep", "()I"⟩, prog_14_method_61_code, 3, (some .int), false, 0),
  (⟨"NightHousesModel", "walk", "(I)I"⟩, prog_14_method_77_code, 2, (some .int), false, 1),
  (⟨"NightHousesModel", "dawn", "()I"⟩, prog_14_method_78_code, 3, (some .int), false, 0),
  (⟨"NightHousesModel", "hedge", "(I)I"⟩, prog_14_method_80_code, 2, (some .int), false, 1),
  (⟨"NightHousesModel", "isBare", "(I)Z"⟩, prog_14_method_79_code, 2, (some .boolean), false, 1),
  (⟨"NightHousesModel", "hedgesNow", "()I"⟩, prog_14_method_59_code, 3, (some .int), false, 0),
  (⟨"NightHousesModel", "cut", "(I)I"⟩, prog_14_method_81_code, 2, (some .int), false, 1),
  (⟨"NightHousesModel", "undo", "()Z"⟩, prog_14_method_82_code, 1, (some .boolean), false, 0),
  (⟨"NightHousesModel", "swapAll", "()V"⟩, prog_14_method_75_code, 3, none, false, 0),
  (⟨"NightHousesModel", "redo", "()Z"⟩, prog_14_method_83_code, 1, (some .boolean), false, 0),
  (⟨"NightHousesModel", "lies", "(I)I"⟩, prog_14_method_84_code, 2, (some .int), false, 1),
  (⟨"NightHousesModel", "will", "(III)I"⟩, prog_14_method_88_code, 6, (some .int), false, 3)]
set_option maxRecDepth 100000 in
theorem nhCd_5 : nhMt_5.map (fun y => Cond.code y.1 y.2.1 y.2.2.1 y.2.2.2.1) = [1751, 1755, 1759, 1763, 1766, 1770, 1774, 1778, 1782, 1786, 1789, 1793, 1797, 1801, 1804, 1808, 1812, 1816, 1820, 1824, 1828, 1832, 1836, 1840, 1844, 1848, 1852, 1856, 1860, 1864, 1868, 1872, 1876, 1880, 1884, 1888, 1892, 1896, 1900, 1904].filterMap (fun i => lw_tbl[i]?) := rfl
set_option maxRecDepth 100000 in
theorem nhIw_5 : nhMt_5.map (fun y => Cond.initialized y.1.cls) = [131, 131, 131, 131, 131, 131, 131, 131, 131, 131, 131, 131, 131, 131, 131, 131, 131, 131, 131, 131, 131, 131, 131, 131, 131, 131, 131, 131, 131, 131, 131, 131, 131, 131, 131, 131, 131, 131, 131, 131].filterMap (fun i => lw_tbl[i]?) := rfl
set_option maxRecDepth 100000 in
theorem nhSw_5 : nhMt_5.map (fun y => cond y.2.2.2.2.1 (Cond.static y.1) (Cond.instanceMethod y.1)) = [1750, 1754, 1758, 1762, 1765, 1769, 1772, 1777, 1781, 1785, 1788, 1791, 1796, 1799, 1803, 1806, 1811, 1814, 1818, 1823, 1826, 1830, 1835, 1838, 1843, 1847, 1851, 1855, 1859, 1862, 1866, 1870, 1875, 1879, 1882, 1886, 1891, 1894, 1898, 1902].filterMap (fun i => lw_tbl[i]?) := rfl
set_option maxRecDepth 100000 in
theorem nhVw_5 : (nhMt_5.filter (fun y => !y.2.2.2.2.1)).map (fun y => Cond.selects y.1.cls y.1 y.1) = [83, 84, 85, 86, 1773, 87, 88, 89, 1792, 90, 1800, 1807, 91, 1815, 1819, 92, 1827, 1831, 93, 1839, 94, 95, 96, 97, 98, 1863, 1867, 1871, 99, 100, 1883, 1887, 101, 1895, 1899, 1903].filterMap (fun i => lw_tbl[i]?) := rfl
set_option maxRecDepth 100000 in
theorem nhDs_5 : nhMt_5.all (fun y => decide (y.1.cls ≠ "java/lang/invoke/MethodHandle" ∧ y.1.cls ≠ "java/lang/invoke/VarHandle" ∧ (parseMethodDescriptor y.1.desc).map (fun d => d.parameters.length) = some y.2.2.2.2.2) && plainName y.1.cls) = true := by decide +kernel
def nhMt_6 : List nhMth := [(⟨"NightHousesModel", "isAhead", "(I)Z"⟩, prog_14_method_49_code, 1, (some .boolean), true, 1),
  (⟨"NightHousesModel", "keepNow", "()V"⟩, prog_14_method_85_code, 2, none, false, 0),
  (⟨"NightHousesModel", "goStep", "(Z)I"⟩, prog_14_method_62_code, 2, (some .int), false, 1),
  (⟨"NightHousesModel", "bringBack", "()V"⟩, prog_14_method_86_code, 2, none, false, 0),
  (⟨"NightHousesModel", "back", "(I)I"⟩, prog_14_method_89_code, 4, (some .int), false, 1),
  (⟨"NightHousesModel", "meet", "(II)I"⟩, prog_14_method_90_code, 5, (some .int), false, 2),
  (⟨"NightHousesModel", "homely", "(IZ)I"⟩, prog_14_method_91_code, 4, (some .int), false, 2),
  (⟨"NightHousesModel", "goSteps", "(IZ)V"⟩, prog_14_method_87_code, 5, none, false, 2),
  (⟨"NightHousesModel", "quarrels", "(I)I"⟩, prog_14_method_93_code, 3, (some .int), false, 1),
  (⟨"NightHousesModel", "tiltNow", "()I"⟩, prog_14_method_92_code, 3, (some .int), false, 0),
  (⟨"NightHousesModel", "stray", "(II)I"⟩, prog_14_method_94_code, 7, (some .int), false, 2),
  (⟨"NightHousesModel", "haunt", "(I)I"⟩, prog_14_method_97_code, 4, (some .int), false, 1),
  (⟨"NightHousesModel", "countHouses", "()V"⟩, prog_14_method_96_code, 2, none, false, 0),
  (⟨"NightHousesModel", "oftenest", "()I"⟩, prog_14_method_95_code, 3, (some .int), false, 0),
  (⟨"NightHousesModel", "gather", "(I)I"⟩, prog_14_method_98_code, 3, (some .int), false, 1),
  (⟨"NightHousesModel", "plan", "(II)I"⟩, prog_14_method_99_code, 7, (some .int), false, 2),
  (⟨"NightHousesModel", "fence", "(III)I"⟩, prog_14_method_101_code, 9, (some .int), false, 3),
  (⟨"NightHousesModel", "doMeetIn", "(III)Z"⟩, prog_14_method_100_code, 7, (some .boolean), false, 3),
  (⟨"NightHousesModel", "post", "(II)I"⟩, prog_14_method_102_code, 7, (some .int), false, 2),
  (⟨"NightHousesModel", "bell", "(II)I"⟩, prog_14_method_103_code, 7, (some .int), false, 2),
  (⟨"NightHousesModel", "way", "(I)I"⟩, prog_14_method_105_code, 2, (some .int), false, 1),
  (⟨"NightHousesModel", "layFar", "(I)V"⟩, prog_14_method_104_code, 5, none, false, 1),
  (⟨"NightHousesModel", "realm", "()I"⟩, prog_14_method_106_code, 3, (some .int), false, 0),
  (⟨"NightHousesModel", "fetch", "()I"⟩, prog_14_method_107_code, 3, (some .int), false, 0),
  (⟨"NightHousesModel", "lost", "()I"⟩, prog_14_method_108_code, 3, (some .int), false, 0),
  (⟨"NightHousesModel", "chase", "(III)I"⟩, prog_14_method_112_code, 7, (some .int), false, 3),
  (⟨"NightHousesModel", "chaseOne", "(II)I"⟩, prog_14_method_109_code, 9, (some .int), false, 2),
  (⟨"NightHousesModel", "chaseTwo", "(II)I"⟩, prog_14_method_110_code, 9, (some .int), false, 2),
  (⟨"NightHousesModel", "chaseThree", "(II)I"⟩, prog_14_method_111_code, 9, (some .int), false, 2),
  (⟨"NightHousesModel", "odds", "(II)I"⟩, prog_14_method_113_code, 5, (some .int), false, 2),
  (⟨"NightHousesModel", "power", "(II)I"⟩, prog_14_method_43_code, 4, (some .int), true, 2),
  (⟨"NightHousesModel", "divisor", "(II)I"⟩, prog_14_method_42_code, 5, (some .int), true, 2),
  (⟨"NightHousesModel", "seen", "(IIZ)I"⟩, prog_14_method_114_code, 4, (some .int), false, 3),
  (⟨"NightHousesModel", "untell", "(I)Z"⟩, prog_14_method_115_code, 2, (some .boolean), false, 1),
  (⟨"NightHousesModel", "later", "(I)I"⟩, prog_14_method_116_code, 2, (some .int), false, 1),
  (⟨"NightHousesModel", "fits", "(I)I"⟩, prog_14_method_119_code, 4, (some .int), false, 1),
  (⟨"NightHousesModel", "layPaths", "()V"⟩, prog_14_method_117_code, 4, none, false, 0),
  (⟨"NightHousesModel", "doesFit", "(II)Z"⟩, prog_14_method_118_code, 5, (some .boolean), false, 2),
  (⟨"NightHousesModel", "sure", "(II)I"⟩, prog_14_method_120_code, 4, (some .int), false, 2),
  (⟨"NightHousesModel", "ask", "(II)I"⟩, prog_14_method_122_code, 5, (some .int), false, 2)]
set_option maxRecDepth 100000 in
theorem nhCd_6 : nhMt_6.map (fun y => Cond.code y.1 y.2.1 y.2.2.1 y.2.2.2.1) = [1907, 1911, 1915, 1919, 1923, 1927, 1931, 1935, 1939, 1943, 1947, 1951, 1955, 1959, 1963, 1967, 1971, 1975, 1979, 1983, 1987, 1991, 1995, 1999, 2003, 2007, 2011, 2015, 2019, 2023, 2026, 2029, 2033, 2037, 2041, 2046, 2050, 2054, 2058, 2063].filterMap (fun i => lw_tbl[i]?) := rfl
set_option maxRecDepth 100000 in
theorem nhIw_6 : nhMt_6.map (fun y => Cond.initialized y.1.cls) = [131, 131, 131, 131, 131, 131, 131, 131, 131, 131, 131, 131, 131, 131, 131, 131, 131, 131, 131, 131, 131, 131, 131, 131, 131, 131, 131, 131, 131, 131, 131, 131, 131, 131, 131, 131, 131, 131, 131, 131].filterMap (fun i => lw_tbl[i]?) := rfl
set_option maxRecDepth 100000 in
theorem nhSw_6 : nhMt_6.map (fun y => cond y.2.2.2.2.1 (Cond.static y.1) (Cond.instanceMethod y.1)) = [1906, 1910, 1914, 1918, 1921, 1925, 1929, 1934, 1937, 1942, 1945, 1949, 1954, 1958, 1961, 1965, 1969, 1974, 1977, 1981, 1985, 1990, 1993, 1997, 2001, 2005, 2010, 2014, 2018, 2021, 2025, 2028, 2031, 2035, 2039, 2044, 2049, 2053, 2056, 2061].filterMap (fun i => lw_tbl[i]?) := rfl
set_option maxRecDepth 100000 in
theorem nhVw_6 : (nhMt_6.filter (fun y => !y.2.2.2.2.1)).map (fun y => Cond.selects y.1.cls y.1 y.1) = [102, 103, 104, 1922, 1926, 1930, 105, 1938, 106, 1946, 1950, 107, 108, 1962, 1966, 1970, 109, 1978, 1982, 1986, 110, 1994, 1998, 2002, 2006, 111, 112, 113, 2022, 2032, 2036, 2040, 2045, 114, 115, 2057, 2062].filterMap (fun i => lw_tbl[i]?) := rfl
set_option maxRecDepth 100000 in
theorem nhDs_6 : nhMt_6.all (fun y => decide (y.1.cls ≠ "java/lang/invoke/MethodHandle" ∧ y.1.cls ≠ "java/lang/invoke/VarHandle" ∧ (parseMethodDescriptor y.1.desc).map (fun d => d.parameters.length) = some y.2.2.2.2.2) && plainName y.1.cls) = true := by decide +kernel
def nhMt_7 : List nhMth := [(⟨"NightHousesModel", "mostBehind", "(II)I"⟩, prog_14_method_121_code, 6, (some .int), false, 2),
  (⟨"NightHousesModel", "image", "(I)I"⟩, prog_14_method_123_code, 3, (some .int), false, 1),
  (⟨"NightHousesModel", "restore", "(I)I"⟩, prog_14_method_124_code, 3, (some .int), false, 1),
  (⟨"NightHousesModel", "about", "(I)I"⟩, prog_14_method_125_code, 2, (some .int), false, 1),
  (⟨"NightHousesModel", "feed", "(IIIII)I"⟩, prog_14_method_126_code, 8, (some .int), false, 5),
  (⟨"NightHousesModel", "end", "(I)I"⟩, prog_14_method_127_code, 2, (some .int), false, 1)]
set_option maxRecDepth 100000 in
theorem nhCd_7 : nhMt_7.map (fun y => Cond.code y.1 y.2.1 y.2.2.1 y.2.2.2.1) = [2067, 2071, 2075, 2079, 2083, 2087].filterMap (fun i => lw_tbl[i]?) := rfl
set_option maxRecDepth 100000 in
theorem nhIw_7 : nhMt_7.map (fun y => Cond.initialized y.1.cls) = [131, 131, 131, 131, 131, 131].filterMap (fun i => lw_tbl[i]?) := rfl
set_option maxRecDepth 100000 in
theorem nhSw_7 : nhMt_7.map (fun y => cond y.2.2.2.2.1 (Cond.static y.1) (Cond.instanceMethod y.1)) = [2066, 2069, 2073, 2077, 2081, 2085].filterMap (fun i => lw_tbl[i]?) := rfl
set_option maxRecDepth 100000 in
theorem nhVw_7 : (nhMt_7.filter (fun y => !y.2.2.2.2.1)).map (fun y => Cond.selects y.1.cls y.1 y.1) = [116, 2070, 2074, 2078, 2082, 2086].filterMap (fun i => lw_tbl[i]?) := rfl
set_option maxRecDepth 100000 in
theorem nhDs_7 : nhMt_7.all (fun y => decide (y.1.cls ≠ "java/lang/invoke/MethodHandle" ∧ y.1.cls ≠ "java/lang/invoke/VarHandle" ∧ (parseMethodDescriptor y.1.desc).map (fun d => d.parameters.length) = some y.2.2.2.2.2) && plainName y.1.cls) = true := by decide +kernel
def nhMt : List nhMth := nhMt_0 ++ (nhMt_1 ++ (nhMt_2 ++ (nhMt_3 ++ (nhMt_4 ++ (nhMt_5 ++ (nhMt_6 ++ (nhMt_7)))))))
def nhMl : List (List (Nat × Nat × Nat)) := [[(49, 110, 1166), (75, 79, 1170), (83, 80, 1171), (55, 111, 1173), (67, 112, 1177), (59, 113, 1180), (71, 114, 1184)], [(26, 58, 942)], [(26, 78, 1029), (30, 79, 1033)], [(31, 1, 551), (35, 2, 555), (67, 4, 563), (71, 53, 968), (80, 54, 972)], [(32, 6, 574)], [(45, 79, 1136), (49, 104, 1137), (61, 63, 1141), (70, 105, 1143), (81, 80, 1147), (74, 106, 1148), (90, 69, 1152)], [(33, 0, 653), (60, 13, 654), (67, 22, 799), (102, 23, 803), (99, 24, 807), (109, 25, 811), (113, 14, 815), (71, 26, 816), (122, 27, 820), (125, 1, 824), (75, 28, 825), (144, 29, 829), (135, 4, 833), (138, 30, 834), (81, 31, 838), (84, 32, 842), (87, 33, 846), (158, 34, 850), (170, 35, 854), (183, 36, 858), (186, 37, 862), (179, 38, 866), (189, 39, 870), (196, 40, 874), (199, 41, 878), (205, 42, 882), (202, 43, 885), (192, 44, 888), (90, 45, 891), (93, 46, 895), (96, 47, 899)], [(69, 149, 1330), (57, 5, 1334), (63, 80, 1335), (78, 150, 1337), (82, 151, 1341), (86, 152, 1345), (90, 6, 1374)], [(76, 53, 922), (80, 54, 926), (83, 55, 930), (92, 56, 934), (95, 57, 938), (68, 63, 998), (15, 69, 1040), (27, 81, 1041), (38, 82, 1044), (35, 52, 1048), (48, 83, 1049), (55, 84, 1052)], [(26, 14, 661), (29, 15, 665), (39, 16, 669), (43, 17, 672), (46, 18, 677), (50, 19, 730), (53, 20, 733)], [(21, 6, 1210), (45, 121, 1215), (31, 129, 1247), (35, 130, 1251), (39, 82, 1255)], [(96, 0, 547), (99, 3, 559), (102, 5, 567), (106, 7, 577), (109, 9, 637), (113, 12, 649), (116, 21, 795), (120, 48, 903), (130, 51, 915), (146, 52, 919), (152, 59, 948), (156, 61, 956), (159, 62, 960), (165, 63, 964), (179, 65, 977), (194, 66, 983), (221, 69, 995), (225, 72, 1007), (229, 75, 1018), (232, 77, 1025), (236, 80, 1037), (240, 84, 1055), (243, 82, 1060), (247, 88, 1069), (252, 91, 1082), (256, 93, 1090), (259, 79, 1098), (262, 97, 1107), (299, 98, 1111), (266, 101, 1123), (270, 103, 1131), (283, 108, 1158), (287, 109, 1162), (302, 116, 1192), (306, 119, 1206), (309, 120, 1211), (313, 122, 1218), (322, 128, 1243), (326, 130, 1256), (332, 136, 1277), (336, 137, 1281), (342, 139, 1290), (345, 140, 1294), (348, 143, 1305), (352, 145, 1313), (356, 148, 1326), (360, 154, 1353), (363, 156, 1360), (366, 159, 1370)], [(140, 160, 1382), (143, 161, 1386), (350, 162, 1390), (340, 163, 1394), (365, 164, 1398), (232, 166, 1599), (196, 167, 1603), (203, 168, 1607), (211, 169, 1610), (215, 170, 1632), (221, 171, 1635), (228, 172, 1638), (250, 173, 1642), (271, 174, 1646), (264, 175, 1650), (253, 176, 1654), (235, 177, 1657), (224, 178, 1661), (267, 179, 1665), (274, 180, 1669), (278, 181, 1673), (261, 182, 1677), (294, 183, 1681), (282, 184, 1685), (285, 185, 1689), (300, 186, 1693), (309, 187, 1697), (312, 188, 1701), (291, 189, 1705), (318, 190, 1709), (321, 191, 1713), (315, 192, 1717), (324, 193, 1721), (327, 194, 1725), (288, 195, 1729), (257, 196, 1733), (404, 199, 1745), (343, 200, 1749), (389, 201, 1752), (371, 202, 1756), (333, 203, 1760), (336, 204, 1764), (392, 205, 1767), (407, 207, 1775), (347, 208, 1779), (377, 209, 1783), (368, 210, 1787), (383, 212, 1794), (395, 214, 1802), (410, 216, 1809), (374, 219, 1821), (413, 222, 1833), (416, 224, 1841), (419, 225, 1845), (398, 226, 1849), (386, 227, 1853), (401, 228, 1857), (422, 232, 1873), (425, 233, 1877), (428, 236, 1889), (434, 240, 1905), (437, 241, 1908), (431, 242, 1912), (440, 243, 1916), (443, 247, 1932), (447, 249, 1940), (450, 252, 1952), (453, 253, 1956), (456, 257, 1972), (459, 261, 1988), (466, 266, 2008), (469, 267, 2012), (472, 268, 2016), (475, 270, 2024), (478, 271, 2027), (485, 276, 2047), (488, 277, 2051), (491, 275, 2059), (494, 280, 2064)], [(311, 155, 1356), (308, 157, 1363)], [], [], [], [], [], [], [(13, 8, 633), (18, 10, 641), (23, 11, 645), (28, 49, 907), (32, 50, 911), (37, 60, 952), (211, 64, 973), (173, 67, 987), (136, 68, 991), (161, 70, 999), (140, 71, 1003), (149, 73, 1010), (169, 74, 1014), (41, 76, 1021), (46, 85, 1056), (50, 86, 1061), (54, 87, 1065), (58, 89, 1073), (62, 90, 1078), (67, 92, 1086), (203, 94, 1094), (207, 95, 1099), (71, 96, 1103), (76, 99, 1115), (80, 100, 1119), (84, 102, 1127), (88, 107, 1154), (92, 115, 1188), (132, 117, 1198), (108, 118, 1202), (120, 123, 1222), (112, 124, 1226), (144, 125, 1231), (153, 126, 1235), (96, 127, 1239), (165, 131, 1257), (104, 132, 1261), (124, 133, 1265), (116, 134, 1269), (100, 135, 1273), (128, 138, 1286), (157, 141, 1297), (177, 142, 1301), (182, 144, 1309), (187, 146, 1317), (191, 147, 1322), (195, 153, 1349), (199, 158, 1366), (27, 165, 1595), (31, 197, 1737), (36, 198, 1741), (40, 206, 1771), (139, 211, 1790), (164, 213, 1798), (143, 215, 1805), (152, 217, 1813), (119, 218, 1817), (160, 220, 1825), (131, 221, 1829), (45, 223, 1837), (49, 229, 1861), (53, 230, 1865), (57, 231, 1869), (61, 234, 1881), (66, 235, 1885), (70, 237, 1893), (176, 238, 1897), (75, 239, 1901), (79, 244, 1920), (83, 245, 1924), (148, 246, 1928), (156, 248, 1936), (115, 250, 1944), (111, 251, 1948), (123, 254, 1960), (87, 255, 1964), (91, 256, 1968), (95, 258, 1976), (135, 259, 1980), (99, 260, 1984), (168, 262, 1992), (107, 263, 1996), (127, 264, 2000), (103, 265, 2004), (172, 269, 2020), (181, 272, 2030), (186, 273, 2034), (190, 274, 2038), (194, 275, 2043), (198, 278, 2055), (202, 279, 2060), (206, 281, 2068), (210, 282, 2072), (214, 283, 2076), (17, 284, 2080), (22, 285, 2084)]]
def nh_mlB (o : Nat) (q : Nat × Nat × Nat) : Bool := match nhOw[o]?, nhMt[q.2.1]? with
  | some C, some y => nh_wd q.2.2 (Cond.methodLink C q.1 y.1)
  | _, _ => false
theorem nhCd0 {f : nhMth → Cond} {M : List nhMth} {ps : List Nat} (h : M.map f = ps.filterMap (fun i => lw_tbl[i]?)) (hg : ∀ y, goodWord (f y) = true) {y : nhMth} (hy : y ∈ M) : f y ∈ nhTb := by
  have h1 : f y ∈ M.map f := List.mem_map.mpr ⟨y, hy, rfl⟩
  rw [h] at h1
  obtain ⟨i, -, hi⟩ := List.mem_filterMap.mp h1
  exact nhTb_mem (List.mem_of_getElem? hi) (hg y)
def nh_mtP (y : nhMth) : Prop := Cond.code y.1 y.2.1 y.2.2.1 y.2.2.2.1 ∈ nhTb ∧ Cond.initialized y.1.cls ∈ nhTb ∧ (y.2.2.2.2.1 = true → Cond.static y.1 ∈ nhTb) ∧ (y.2.2.2.2.1 = false → Cond.instanceMethod y.1 ∈ nhTb ∧ Cond.selects y.1.cls y.1 y.1 ∈ nhTb) ∧ (y.1.cls ≠ "java/lang/invoke/MethodHandle" ∧ y.1.cls ≠ "java/lang/invoke/VarHandle" ∧ (parseMethodDescriptor y.1.desc).map (fun d => d.parameters.length) = some y.2.2.2.2.2) ∧ plainName y.1.cls = true
theorem nhMt0 {M : List nhMth} {p1 p2 p3 p4 : List Nat} (h1 : M.map (fun y => Cond.code y.1 y.2.1 y.2.2.1 y.2.2.2.1) = p1.filterMap (fun i => lw_tbl[i]?)) (h2 : M.map (fun y => Cond.initialized y.1.cls) = p2.filterMap (fun i => lw_tbl[i]?)) (h3 : M.map (fun y => cond y.2.2.2.2.1 (Cond.static y.1) (Cond.instanceMethod y.1)) = p3.filterMap (fun i => lw_tbl[i]?)) (h4 : (M.filter (fun y => !y.2.2.2.2.1)).map (fun y => Cond.selects y.1.cls y.1 y.1) = p4.filterMap (fun i => lw_tbl[i]?))
    (h5 : M.all (fun y => decide (y.1.cls ≠ "java/lang/invoke/MethodHandle" ∧ y.1.cls ≠ "java/lang/invoke/VarHandle" ∧ (parseMethodDescriptor y.1.desc).map (fun d => d.parameters.length) = some y.2.2.2.2.2) && plainName y.1.cls) = true) {y : nhMth} (hy : y ∈ M) : nh_mtP y := by
  have h6 := List.all_eq_true.mp h5 y hy
  simp only [Bool.and_eq_true, decide_eq_true_eq] at h6
  have h7 := nhCd0 h3 (fun y => by cases y.2.2.2.2.1 <;> rfl) hy
  refine ⟨nhCd0 h1 (fun _ => rfl) hy, nhCd0 h2 (fun _ => rfl) hy, fun e => ?_, fun e => ⟨?_, ?_⟩, h6.1, h6.2⟩
  · rw [e] at h7; exact h7
  · rw [e] at h7; exact h7
  · exact nhCd0 h4 (fun _ => rfl) (List.mem_filter.mpr ⟨hy, by rw [e]; rfl⟩)
theorem nhMt1 {y : nhMth} (h : y ∈ nhMt) : nh_mtP y := by
  unfold nhMt at h
  simp only [List.mem_append] at h
  rcases h with h | h | h | h | h | h | h | h
  · exact nhMt0 nhCd_0 nhIw_0 nhSw_0 nhVw_0 nhDs_0 h
  · exact nhMt0 nhCd_1 nhIw_1 nhSw_1 nhVw_1 nhDs_1 h
  · exact nhMt0 nhCd_2 nhIw_2 nhSw_2 nhVw_2 nhDs_2 h
  · exact nhMt0 nhCd_3 nhIw_3 nhSw_3 nhVw_3 nhDs_3 h
  · exact nhMt0 nhCd_4 nhIw_4 nhSw_4 nhVw_4 nhDs_4 h
  · exact nhMt0 nhCd_5 nhIw_5 nhSw_5 nhVw_5 nhDs_5 h
  · exact nhMt0 nhCd_6 nhIw_6 nhSw_6 nhVw_6 nhDs_6 h
  · exact nhMt0 nhCd_7 nhIw_7 nhSw_7 nhVw_7 nhDs_7 h
theorem nh_mt_ok {mn : Nat} {y : nhMth} (h : nhMt[mn]? = some y) : nh_mtP y := nhMt1 (List.mem_of_getElem? h)

